/** The forest that most tests look at; what is due in it has been reckoned by hand. */
final class Forest {
    static final int ANN = 0;
    static final int BOB = 1;
    static final int CAT = 2;
    static final int DAN = 3;
    static final int EVE = 4;
    static final int FAY = 5;

    static final String TEXT = "course long 31,40,32,40,33; course short 31,32,35; course spare 1; gap 15; slack 10;"
        + "runner ann long 0 300: 31 50, 40 100, 32 160, 40 200, 33 260;"   // legs 50 50 60 40 60 40
        + "runner bob long 10 340: 31 55, 40 110, 32 170, 40 230, 33 300;"  // legs 45 55 60 60 70 40
        + "runner cat long 20 350: 31 75, 40 130, 40 215, 33 290;"          // legs 55 55 - - 75 60
        + "runner dan short 0 150: 31 40, 32 90, 35 120;"                   // legs 40 50 30 30
        + "runner eve short 5 155: 35 30, 31 45, 32 95, 35 125;"            // legs 40 50 30 30
        + "runner fay short 60 160";                                        // legs - - - -

    static ForestLegs fresh() {
        return Check.told(TEXT);
    }

    private Forest() {
    }
}
