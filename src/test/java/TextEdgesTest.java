/** Boundary cases of Terms I: TOKENS, LINES, NAMES and the five FAULTS with their places. */
final class TextEdgesTest {
    private static final Check check = new Check();
    private static final String THREE = "course a 1;course b 1;course c 1";
    private static final String TEN_CODES = "course a 1,2,3,4,5,6,7,8,9,10";
    private static final String SIXTEEN = "course a 1;runner b a 0 9:1 5" + Check.repeat(",1 5", 15);

    public static void main(String[] args) {
        blanks();
        words();
        wholes();
        singleOnes();
        eachByte();
        lines();
        controls();
        codesOfCourses();
        codesAlike();
        courses();
        courseOfRunner();
        startAndFinish();
        punches();
        timesOfPunches();
        runners();
        gapAndSlack();
        namesButFour();
        namesAlike();
        firstTokenFromTheLeft();
        leastNumberOfOneToken();
        tooMany();
        noTextGoesOn();
        endOfTheText();
        faultsOfNumbers();
        faultsOfNames();
        faultsOfRoom();
        noCourse();
        nothingIsLeftOfAFaultyText();
        check.end();
    }

    private static String tenRunners() {
        StringBuilder all = new StringBuilder("course z 1");
        for (int r = 0; r < 10; r++) {
            all.append(";runner ").append((char) ('a' + r)).append(" z 0 9");
        }
        return all.toString();
    }

    private static void blanks() {
        check.says("blanks, 32, part TOKENS and mean nothing else");
        String[] tokens = {"course", "a", "1", ",", "2", ";", "runner", "b", "a", "0", "9", ":", "1", "5", ",", "2", "6", ";", "gap", "3"};
        for (int count = 1; count <= 30; count += 29) {
            String blank = Check.repeat(" ", count);
            check.sound(blank + String.join(blank, tokens) + blank, 1);
        }
        check.sound("course a1,2;runner b a0 9:1 5,2 6;gap3", 1);
        check.faulty("cou rse a 1", 1, 0);
        check.faulty("course a 1,2;run ner b a 0 9", 1, 13);
        check.faulty("course a 1 2", 1, 11);
        check.faulty("course a b 1", 1, 9);
        check.faulty("course a 1; ;gap 5", 1, 12);
        check.faulty("   ?", 1, 3);
        check.faulty("   course   a   0", 2, 16);
    }

    private static void words() {
        check.says("WORDS of 1 to 6 small letters that stand together");
        check.sound("course a 1", 0);
        check.sound("course z 1", 0);
        check.sound("course abcdef 1;runner uvwxyz abcdef 0 9", 1);
        check.sound("course zzzzzz 1", 0);
        check.faulty("course zzzzzzz 1", 1, 7);
        check.faulty("course abcdefghijklmnopqrstuvwxyz 1", 1, 7);
        check.faulty("course " + Check.repeat("a", 880), 1, 7);
        check.faulty("course a 1;runner bcdefgh a 0 9", 1, 18);
        check.faulty("course abcdef 1;runner b abcdefg 0 9", 1, 25);
        // of letters too many the last six are no word of their own, nor the first six
        check.faulty("xcourse a 1", 1, 0);
        check.faulty("coursex a 1", 1, 0);
        check.faulty("aaaaaacourse a 1", 1, 0);
        check.faulty("course a 1;gapgapgap 5", 1, 11);
        check.faulty("course aCb 1", 1, 8);
    }

    private static void wholes() {
        check.says("WHOLES of 1 to 4 digits that do");
        check.sound("course a 1", 0);
        check.sound("course a 0099;gap 0600;slack 0000;runner b a 0000 9999:0001 0000", 1);
        check.faulty("course a 00001", 1, 9);
        check.faulty("course a 1;gap 00000", 1, 15);
        check.faulty("course a 1;runner b a 0 10000", 1, 24);
        check.faulty("course a 1;runner b a 00000 9", 1, 22);
        check.faulty("course a 1;runner b a 0 9:00001 5", 1, 26);
        check.faulty("course a 1;runner b a 0 9:1 00005", 1, 28);
        // such as come round to a small number
        check.faulty("course a 4294967297", 1, 9);
        check.faulty("course a 18446744073709551617", 1, 9);
        check.faulty("course a " + Check.repeat("0", 880) + "1", 1, 9);
        check.sound("course a1", 0);
        check.faulty("course 1a", 1, 7);
    }

    private static void singleOnes() {
        check.says("single ones of ; , :");
        check.faulty("course a 1;;course b 1", 1, 11);
        check.faulty("course a 1,,2", 1, 11);
        check.faulty("course a 1;runner b a 0 9::1 5", 1, 26);
        check.faulty("course a 1,;gap 5", 1, 11);
        check.faulty("course a 1;,2", 1, 11);
        check.faulty("course a,1", 1, 8);
        check.faulty("course:a 1", 1, 6);
        check.faulty(",", 1, 0);
        check.faulty(":", 1, 0);
        check.faulty(";", 1, 0);
        check.faulty("course a 1;runner b a 0 9:;gap 5", 1, 26);
        check.faulty("course a 1;runner b a 0 9:,1 5", 1, 26);
        check.faulty("course a 1:1 5", 1, 10);
        check.faulty("gap 5:6", 1, 5);
        check.faulty("gap 5,6", 1, 5);
    }

    private static void eachByte() {
        check.says("a byte that begins no TOKEN");
        for (int sign = 0; sign < 256; sign++) {
            boolean digit = sign >= '0' && sign <= '9';
            String within = "course a 1" + (char) sign + "2";
            if (sign == ',') {
                check.sound(within, 0);
            } else if (digit) {
                check.faulty(within, 2, 9);
            } else {
                check.faulty(within, 1, sign == ' ' || sign == ';' ? 11 : 10);
            }
            String ahead = (char) sign + "course a 1";
            if (sign == ' ') {
                check.sound(ahead, 0);
            } else {
                check.faulty(ahead, 1, 0);
            }
            String behind = "course a 1" + (char) sign;
            if (sign == ' ' || digit) {
                check.sound(behind, 0);
            } else {
                check.faulty(behind, 1, sign == ',' || sign == ';' ? 11 : 10);
            }
            String name = "course a" + (char) sign + " 1";
            if (sign == ' ' || sign >= 'a' && sign <= 'z') {
                check.sound(name, 0);
            } else {
                int fault = sign == '0' ? 2 : 1;
                check.faulty(name, fault, digit && sign != '0' ? 10 : 8);
            }
        }
    }

    private static void lines() {
        check.says("LINE {; LINE}");
        check.faulty("", 1, 0);
        check.faulty(" ", 1, 1);
        check.faulty("course a 1;", 1, 11);
        check.faulty("course a 1; ", 1, 12);
        check.faulty(";course a 1", 1, 0);
        check.faulty("course a 1 gap 5", 1, 11);
        check.faulty("course a 1,2 runner b a 0 9", 1, 13);
        check.faulty("course a 1;runner b a 0 9 gap 5", 1, 26);
        check.faulty("course a 1;runner b a 0 9:1 5 gap 5", 1, 30);
        check.faulty("course a 1;word 5", 1, 11);
        check.faulty("course a 1;5", 1, 11);
        check.sound("slack 1;" + THREE + ";gap 1" + tenRunners().substring(10).replace(" z ", " c ")
            .replace("runner ", "runner r"), 10);
    }

    private static void controls() {
        check.says("its CONTROLS 0, 1, .., 1 .. 10 of them");
        check.faulty("course a", 1, 8);
        check.faulty("course a;gap 5", 1, 8);
        check.faulty("course a,1", 1, 8);
        String text = "course a 1";
        for (int controls = 1; controls <= 10; controls++) {
            ForestLegs x = Check.told(text);
            check.due("controls", x.course(0, 0), controls);
            for (int i = 0; i < controls; i++) {
                check.due("code " + i + " of " + controls, x.code(0, i), i + 1);
            }
            check.refused("code " + controls + " of " + controls, x, x.code(0, controls), 1);
            text = text + "," + (controls + 1);
        }
        check.faulty(text, 4, 30);
    }

    private static void codesOfCourses() {
        check.says("CODES 1 .. 99, no two one behind another alike");
        check.faulty("course a 0", 2, 9);
        check.sound("course a 1", 0);
        check.sound("course a 99", 0);
        check.faulty("course a 100", 2, 9);
        check.faulty("course a 9999", 2, 9);
        check.faulty("course a 5,0", 2, 11);
        check.faulty("course a 5,100", 2, 11);
        check.sound("course a 5,99,1", 0);
        check.faulty("course a 1,2,3,4,5,6,7,8,9,0", 2, 27);
        check.faulty("course a 1,2,3,4,5,6,7,8,9,100", 2, 27);
        check.sound("course a 1,2,3,4,5,6,7,8,9,99", 0);
    }

    private static void codesAlike() {
        check.says("a CODE like the one ahead of it on a COURSE");
        check.faulty("course a 7,7", 2, 11);
        check.faulty("course a 7,007", 2, 11);
        check.faulty("course a 1,2,3,4,5,6,7,8,9,9", 2, 27);
        check.sound("course a 7,8,7,8,7,8,7,8,7,8", 0);
        check.sound("course a 7,8;course b 8,7;course c 7,8", 0);
        // the last code of a course is not ahead of the first one of the next
        check.sound("course a 7;course b 7", 0);
    }

    private static void courses() {
        check.says("up to 3, numbered from 0");
        check.sound("course a 1", 0);
        check.sound("course a 1;course b 1", 0);
        ForestLegs x = Check.told("course a 11;runner p a 0 9;course b 12;gap 5;course c 13");
        for (int c = 0; c < 3; c++) {
            check.due("code of course " + c, x.code(c, 0), 11 + c);
        }
        check.refused("course 3", x, x.code(3, 0), 1);
        check.faulty(THREE + ";course d 1", 4, 33);
        check.faulty(THREE + ";gap 5;course d 1", 4, 39);
    }

    private static void courseOfRunner() {
        check.says("COURSE: the NAME of one told ahead");
        ForestLegs x = Check.told("course a 1;runner p a 0 9;course b 1;course c 1;runner q b 0 9;runner r c 0 9;runner s a 0 9");
        int[] due = {0, 1, 2, 0};
        for (int r = 0; r < 4; r++) {
            check.due("course of " + r, x.runner(r, 0), due[r]);
        }
        check.faulty("course a 1;runner p b 0 9;course b 1", 3, 20);
        check.faulty("runner p a 0 9", 3, 9);
        check.faulty("course a 1;runner p p 0 9", 3, 20);
        check.faulty("course a 1;runner p a 0 9;runner q p 0 9", 3, 35);
        check.faulty("course a 1;runner p aa 0 9", 3, 20);
        check.faulty("course aa 1;runner p a 0 9", 3, 21);
    }

    private static void startAndFinish() {
        check.says("START 0 .. 9,998, FINISH above START, up to 9,999");
        String ahead = "course a 1;runner b a ";
        int[][] taken = {{0, 1}, {0, 9999}, {9998, 9999}, {5, 6}, {4999, 5000}};
        for (int[] row : taken) {
            ForestLegs x = Check.told(ahead + row[0] + " " + row[1]);
            check.due("START", x.runner(0, 1), row[0]);
            check.due("FINISH", x.runner(0, 2), row[1]);
        }
        check.faulty(ahead + "9999 9999", 2, 22);
        check.faulty(ahead + "9999", 2, 22);
        check.faulty(ahead + "0 0", 2, 24);
        check.faulty(ahead + "5 5", 2, 24);
        check.faulty(ahead + "5 4", 2, 24);
        check.faulty(ahead + "9998 9998", 2, 27);
        check.faulty(ahead + "0 10000", 1, 24);
        check.faulty(ahead + "0", 1, 23);
        check.faulty(ahead + "0;gap 5", 1, 23);
    }

    private static void punches() {
        check.says("PUNCHES in the order in which they were made, up to 16: CODE 1 .. 99, TIME START .. FINISH");
        String text = "course a 1;runner b a 5 9";
        for (int count = 0; count <= 16; count++) {
            ForestLegs x = Check.told(text);
            check.due("punches", x.runner(0, 4), count);
            for (int k = 0; k < count; k++) {
                check.due("code of " + k, x.punch(0, k, 0), k + 1);
            }
            check.refused("punch " + count, x, x.punch(0, count, 0), 1);
            text = text + (count == 0 ? ":" : ",") + (count + 1) + " 7";
        }
        check.faulty(text, 4, text.length() - 4);
        String ahead = "course a 1;runner b a 5 9:";
        check.faulty(ahead + "0 7", 2, 26);
        check.sound(ahead + "1 7", 1);
        check.sound(ahead + "99 7", 1);
        check.faulty(ahead + "100 7", 2, 26);
        check.faulty(ahead + "1 7,0 7", 2, 30);
        check.faulty(ahead + "1 7,100 7", 2, 30);
        check.faulty(ahead + "1 4", 2, 28);
        check.sound(ahead + "1 5", 1);
        check.sound(ahead + "1 9", 1);
        check.faulty(ahead + "1 10", 2, 28);
        check.faulty(ahead + "1 9999", 2, 28);
    }

    private static void timesOfPunches() {
        check.says("none before that of the PUNCH ahead");
        String ahead = "course a 1;runner b a 5 9:";
        check.sound(ahead + "1 5,1 5,1 6,2 6,1 9,3 9", 1);
        check.faulty(ahead + "1 6,1 5", 2, 32);
        check.faulty(ahead + "1 6,1 6,2 5", 2, 36);
        check.faulty(ahead + "1 9,1 10", 2, 32);
        check.faulty(ahead + "1 9,1 4", 2, 32);
        // the times of another runner don't count
        check.sound(ahead + "1 9;runner c a 0 9:1 0", 2);
    }

    private static void runners() {
        check.says("up to 10, numbered from 0");
        String ten = tenRunners();
        ForestLegs x = Check.told(ten);
        check.due("runners", x.about(1), 10);
        check.due("the last one", x.runner(9, 2), 9);
        check.refused("runner 10", x, x.runner(10, 2), 1);
        check.faulty(ten + ";runner k z 0 9", 4, ten.length() + 1);
        check.sound(ten + ";course k 1;gap 5;slack 5", 10);
    }

    private static void gapAndSlack() {
        check.says("gap WHOLE (0 .. 600, 10 without) or slack WHOLE (0 .. 600, 20 without), once each");
        int[][] told = {{0, 0}, {600, 600}, {1, 599}, {-1, 600}, {600, -1}, {-1, -1}, {20, 10}};
        for (int[] row : told) {
            String text = "course a 1" + (row[0] < 0 ? "" : ";gap " + row[0]) + (row[1] < 0 ? "" : ";slack " + row[1]);
            ForestLegs x = Check.told(text);
            check.due("gap of " + text, x.about(2), row[0] < 0 ? 10 : row[0]);
            check.due("slack of " + text, x.about(3), row[1] < 0 ? 20 : row[1]);
        }
        check.faulty("gap 601", 2, 4);
        check.faulty("slack 601", 2, 6);
        check.faulty("gap 9999", 2, 4);
        check.faulty("gap;slack 5", 1, 3);
        check.faulty("gap a", 1, 4);
        check.faulty("slack ,", 1, 6);
        check.faulty("gap 5;slack 5;gap 5", 3, 14);
        check.faulty("slack 5;gap 5;slack 5", 3, 14);
        check.faulty("gap 5;gap 5", 3, 6);
        ForestLegs y = Check.told("gap 5;slack 6;course a 1");
        check.due("told again in another text", Check.tell(y, "gap 7;slack 8;course a 1"), 0);
        check.due("gap of that", y.about(2), 7);
        check.due("slack of that", y.about(3), 8);
    }

    private static void namesButFour() {
        check.says("A NAME is a WORD but course, runner, gap, slack; no two alike.");
        for (String word : new String[] {"course", "runner", "gap", "slack"}) {
            check.faulty("course " + word + " 1", 1, 7);
            check.faulty("course a 1;runner " + word + " a 0 9", 1, 18);
            check.faulty("course a 1;runner b " + word + " 0 9", 1, 20);
        }
        check.sound("course cours 1;course cource 1;course runne 1;runner ga cours 0 9;runner gaps runne 0 9;"
            + "runner slac cource 0 9;runner slacks cours 0 9;runner runer cours 0 9;runner sourse runne 0 9", 6);
    }

    private static void namesAlike() {
        check.says("3 a NAME told again");
        check.faulty("course a 1;course a 1", 3, 18);
        check.faulty("course a 1;course b 1;course a 1", 3, 29);
        check.faulty("course a 1;course b 1;course b 1", 3, 29);
        check.faulty("course a 1;runner a a 0 9", 3, 18);
        check.faulty("course a 1;runner b a 0 9;course b 1", 3, 33);
        check.faulty("course a 1;runner b a 0 9;runner b a 0 9", 3, 33);
        String nine = tenRunners().replace(";runner j z 0 9", "");
        check.faulty(nine + ";runner a z 0 9", 3, nine.length() + 8);
        check.faulty(nine + ";runner i z 0 9", 3, nine.length() + 8);
        check.faulty(nine + ";runner z z 0 9", 3, nine.length() + 8);
        check.faulty("course abcdef 1;runner abcdef abcdef 0 9", 3, 23);
        check.sound("course abcdef 1;runner abcdeg abcdef 0 9;runner bbcdef abcdef 0 9;runner a abcdef 0 9;runner aa abcdef 0 9", 4);
    }

    private static void firstTokenFromTheLeft() {
        check.says("Told is the first TOKEN, from the left, at which one is found");
        check.faulty("course a 0,?", 2, 9);
        check.faulty("course a 1;course a ?", 3, 18);
        check.faulty(THREE + ";course ?", 4, 33);
        check.faulty(TEN_CODES + ",11?", 4, 30);
        check.faulty(SIXTEEN + ",1 ?", 4, SIXTEEN.length() + 1);
        check.faulty("gap 5;gap ?", 3, 6);
        check.faulty("gap 5;?", 1, 6);
        check.faulty("gap 601;gap 5;runner b a 0 9", 2, 4);
        check.faulty("gap 5;runner b a 9999 9999", 3, 15);
        check.faulty("course a 1;runner b a 9999 10000", 2, 22);
        check.faulty("course a 1;runner b a 9 5:0 0", 2, 24);
        check.faulty("course a 1;runner b a 0 9:0 12345", 2, 26);
        check.faulty("course a 1,1,0", 2, 11);
        check.faulty("abcdefg 12345 ?", 1, 0);
        check.faulty("course course a 1;?", 1, 7);
    }

    private static void leastNumberOfOneToken() {
        check.says("of one TOKEN the least number");
        check.faulty(TEN_CODES + ",10", 2, 30);
        check.faulty(TEN_CODES + ",0", 2, 30);
        check.faulty(TEN_CODES + ",100", 2, 30);
        check.faulty(TEN_CODES + ",a", 1, 30);
        check.faulty(TEN_CODES + ",", 1, 30);
        check.faulty(TEN_CODES + ",00011", 1, 30);
        check.faulty(TEN_CODES + ",?", 1, 30);
        int punch = SIXTEEN.length() + 1;
        check.faulty(SIXTEEN + ",0 5", 2, punch);
        check.faulty(SIXTEEN + ",100 5", 2, punch);
        check.faulty(SIXTEEN + ",a 5", 1, punch);
        check.faulty(SIXTEEN + ",", 1, punch);
        check.faulty(SIXTEEN + ",00001 5", 1, punch);
        // a word at which no line may begin is of wrong form ahead of all else
        check.faulty(THREE + " course d 1", 1, 33);
        check.faulty(tenRunners() + " runner k z 0 9", 1, tenRunners().length() + 1);
        check.faulty("gap 5 gap 6", 1, 6);
        check.faulty("slack slack", 1, 6);
    }

    private static void tooMany() {
        check.says("letters or digits too many that stand together (at the first of these)");
        check.faulty("abcdefg", 1, 0);
        check.faulty("  abcdefg", 1, 2);
        check.faulty("12345", 1, 0);
        check.faulty("course a 12345", 1, 9);
        check.faulty("course a 1,12345", 1, 11);
        check.faulty("course a 1 12345", 1, 11);
        check.faulty("course a 1;abcdefg", 1, 11);
        check.faulty("course a 1;runner b a12345 9", 1, 21);
        check.faulty("course a 1;runner b a 1abcdefg", 1, 23);
        check.faulty("gap 5;gap 12345", 3, 6);
        check.sound("course abcdef1;runner bcdefg abcdef0001 0009", 1);
        // as many as fit, and what is cut off doesn't count
        ForestLegs x = new ForestLegs();
        Check.feed(x, "course a 00011;gap 5");
        check.due("text(13) of five digits", x.text(13), 0);
        check.due("its code", x.code(0, 0), 1);
        Check.feed(x, "course a 1;gap 00005");
        check.due("text(20) of five digits at the end", x.text(20), -1);
        check.due("its place", x.where(), 15);
    }

    private static void noTextGoesOn() {
        check.says("a TOKEN with which no TEXT goes on");
        String[] tokens = {"course", "a", "1", ",", "2", ";", "runner", "b", "a", "0", "9", ":", "1", "5", ",", "2", "6", ";", "slack", "7"};
        // what may come in each place: L a word that begins a LINE, N a NAME, n a WHOLE, else the sign itself; . the end
        String[] may = {"L", "N", "n", ",;.", "n", ",;.", "L", "N", "N", "n", "n", ":;.", "n", "n", ",;.", "n", "n", ",;.", "L", "n", ";."};
        for (int i = 0; i < may.length; i++) {
            StringBuilder ahead = new StringBuilder();
            for (int j = 0; j < i; j++) {
                ahead.append(tokens[j]).append(' ');
            }
            for (String next : new String[] {",", ";", ":", "5", "word", "gap", ""}) {
                String text = ahead + next;
                boolean form = next.isEmpty() ? may[i].contains(".") : next.equals("5") ? may[i].equals("n")
                    : next.equals("word") ? may[i].equals("N") : next.equals("gap") ? may[i].equals("L") : may[i].contains(next);
                ForestLegs x = new ForestLegs();
                Check.tell(x, text);
                boolean here = x.fault() == 1 && x.where() == ahead.length();
                check.due("fault 1 at the last token of '" + text + "'", here ? 1 : 0, form ? 0 : 1);
            }
        }
    }

    private static void endOfTheText() {
        check.says("(the end of the text: how many bytes it has)");
        String[] texts = {"", "course", "course a", "course a 1,", "course a 1;", "gap", "slack", "course a 1;runner",
            "course a 1;runner b", "course a 1;runner b a", "course a 1;runner b a 0", "course a 1;runner b a 0 9:",
            "course a 1;runner b a 0 9:1", "course a 1;runner b a 0 9:1 5,", "course a 1;runner b a 0 9:1 5;"};
        for (String text : texts) {
            check.faulty(text, 1, text.length());
            check.faulty(text + "   ", 1, text.length() + 3);
        }
    }

    private static void faultsOfNumbers() {
        check.says("2 a WHOLE that isn't within its bounds");
        check.faulty("course a 0", 2, 9);
        check.faulty("course a 1;gap 601", 2, 15);
        check.faulty("course a 1;slack 601", 2, 17);
        check.faulty("course a 1;runner b a 9999 1", 2, 22);
        check.faulty("course a 1;runner b a 9 9", 2, 24);
        check.faulty("course a 1;runner b a 1 9:0 5", 2, 26);
        check.faulty("course a 1;runner b a 1 9:1 0", 2, 28);
    }

    private static void faultsOfNames() {
        check.says("a NAME that is no COURSE told ahead, where such must be; gap, slack a second time, at that WORD");
        check.faulty("course a 1;runner b c 0 9", 3, 20);
        check.faulty("course a 1;runner b gap 0 9", 1, 20);
        check.faulty("gap 1;course a 1;  gap 2", 3, 19);
        check.faulty("slack 1;course a 1;  slack 2", 3, 21);
        check.faulty("gap 1;gap", 3, 6);
        check.faulty("gap 1;gap 601", 3, 6);
        check.faulty("gap 601;gap 1", 2, 4);
    }

    private static void faultsOfRoom() {
        check.says("4 a fourth course, an 11th runner, at that WORD; an 11th CODE of a COURSE, a 17th PUNCH, at its CODE");
        check.faulty(THREE + ";course", 4, 33);
        check.faulty(THREE + "; course a 0", 4, 34);
        check.faulty(tenRunners() + ";runner", 4, tenRunners().length() + 1);
        check.faulty(tenRunners() + "; runner a b 9 9", 4, tenRunners().length() + 2);
        check.faulty(TEN_CODES + ", 11", 4, 31);
        check.faulty(TEN_CODES + ",99,100", 4, 30);
        check.faulty(TEN_CODES + ",1", 4, 30);
        check.faulty(SIXTEEN + ", 1 5", 4, SIXTEEN.length() + 2);
        check.faulty(SIXTEEN + ",99", 4, SIXTEEN.length() + 1);
        check.faulty(SIXTEEN + ",1 0", 4, SIXTEEN.length() + 1);
        // a second course, another runner has room of his own
        check.sound(TEN_CODES + ";course b 1,2,3,4,5,6,7,8,9,10;course c 1,2,3,4,5,6,7,8,9,10", 0);
        check.sound(SIXTEEN + ";runner c a 0 9:1 5" + Check.repeat(",1 5", 15), 2);
    }

    private static void noCourse() {
        check.says("5 at the end: there is no course");
        check.faulty("gap 5", 5, 5);
        check.faulty("slack 5", 5, 7);
        check.faulty("gap 5;slack 6", 5, 13);
        check.faulty("gap 5  ", 5, 7);
        check.faulty("gap 5;", 1, 6);
        check.faulty("gap 5;runner b a 0 9", 3, 15);
        check.sound("gap 5;course a 1", 0);
    }

    private static void nothingIsLeftOfAFaultyText() {
        check.says("What is refused changes nothing but trouble(), where(); by 4 THE TAPE (empty then), fault().");
        String told = "gap 3;slack 4;course a 1,2;runner b a 0 9:1 5,2 6";
        String[] faulty = {"course x 1;course y 2;course z 3;?", "gap 5;slack 5;course x 9,9", tenRunners() + ";?",
            TEN_CODES + ",11", SIXTEEN + ",1 5", "gap 600;slack 600", "", "course c 5;runner b c 0 5:5 5;runner d a 0 9"};
        int[] faults = {1, 2, 1, 4, 4, 5, 1, 3};
        for (int i = 0; i < faulty.length; i++) {
            ForestLegs x = Check.told(told);
            ForestLegs twin = Check.told(told);
            x.become(0, 99);
            twin.become(0, 99);
            check.due("text '" + faulty[i] + "'", Check.tell(x, faulty[i]), -1);
            check.due("trouble() of '" + faulty[i] + "'", x.trouble(), 4);
            check.due("fault() of '" + faulty[i] + "'", x.fault(), faults[i]);
            check.due("size() behind '" + faulty[i] + "'", x.size(), 0);
            check.due("what was told behind '" + faulty[i] + "'", Check.state(x), Check.state(twin));
            check.due("the act behind '" + faulty[i] + "' can be undone", x.undo(), 0);
            check.due("gap is back behind '" + faulty[i] + "'", x.about(2), 3);
            check.due("a sound one behind '" + faulty[i] + "'", Check.tell(x, "gap 5;slack 5;course x 1;course y 1;course z 1"), 0);
            check.due("fault() of that", x.fault(), 0);
        }
    }
}
