theorem dL_law_1886 : decode code 1886 = .ok (.iconst 1, 1) := by decide +kernel
theorem dL_law_1887 : decode code 1887 = .ok (.iadd, 1) := by decide +kernel
theorem dL_law_1888 : decode code 1888 = .ok (.iaload, 1) := by decide +kernel
theorem dL_law_1889 : decode code 1889 = .ok (.aload_n 0, 1) := by decide +kernel
theorem dL_law_1890 : decode code 1890 = .ok (.iload 4, 2) := by decide +kernel
theorem dL_law_1892 : decode code 1892 = .ok (.iconst 2, 1) := by decide +kernel
theorem dL_law_1893 : decode code 1893 = .ok (.iadd, 1) := by decide +kernel
theorem dL_law_1894 : decode code 1894 = .ok (.iaload, 1) := by decide +kernel
theorem dL_law_1895 : decode code 1895 = .ok (.ifCond .eq 7, 3) := by decide +kernel
theorem dL_law_1898 : decode code 1898 = .ok (.iconst 1, 1) := by decide +kernel
theorem dL_law_1899 : decode code 1899 = .ok (.goto 4, 3) := by decide +kernel
theorem dL_law_1902 : decode code 1902 = .ok (.iconst 0, 1) := by decide +kernel
theorem dL_law_1903 : decode code 1903 = .ok (.aload_n 3, 1) := by decide +kernel
theorem dL_law_1904 : decode code 1904 = .ok (.invokestatic 208, 3) := by decide +kernel
theorem dL_law_1907 : decode code 1907 = .ok (.istore 5, 2) := by decide +kernel
theorem dL_law_1909 : decode code 1909 = .ok (.aload_n 2, 1) := by decide +kernel
theorem dL_law_1910 : decode code 1910 = .ok (.aload_n 0, 1) := by decide +kernel
theorem dL_law_1911 : decode code 1911 = .ok (.iload 4, 2) := by decide +kernel
theorem dL_law_1913 : decode code 1913 = .ok (.iconst 1, 1) := by decide +kernel
theorem dL_law_1914 : decode code 1914 = .ok (.iadd, 1) := by decide +kernel
theorem dL_law_1915 : decode code 1915 = .ok (.iaload, 1) := by decide +kernel
theorem dL_law_1916 : decode code 1916 = .ok (.aload_n 0, 1) := by decide +kernel
theorem dL_law_1917 : decode code 1917 = .ok (.iload 4, 2) := by decide +kernel
theorem dL_law_1919 : decode code 1919 = .ok (.iconst 2, 1) := by decide +kernel
theorem dL_law_1920 : decode code 1920 = .ok (.iadd, 1) := by decide +kernel
theorem dL_law_1921 : decode code 1921 = .ok (.iaload, 1) := by decide +kernel
theorem dL_law_1922 : decode code 1922 = .ok (.ifCond .eq 7, 3) := by decide +kernel
theorem dL_law_1925 : decode code 1925 = .ok (.iconst 1, 1) := by decide +kernel
theorem dL_law_1926 : decode code 1926 = .ok (.goto 4, 3) := by decide +kernel
theorem dL_law_1929 : decode code 1929 = .ok (.iconst 0, 1) := by decide +kernel
theorem dL_law_1930 : decode code 1930 = .ok (.invokevirtual 213, 3) := by decide +kernel
theorem dL_law_1933 : decode code 1933 = .ok (.istore 6, 2) := by decide +kernel
theorem dL_law_1935 : decode code 1935 = .ok (.aload_n 2, 1) := by decide +kernel
theorem dL_law_1936 : decode code 1936 = .ok (.invokevirtual 214, 3) := by decide +kernel
theorem dL_law_1939 : decode code 1939 = .ok (.iload 5, 2) := by decide +kernel
theorem dL_law_1941 : decode code 1941 = .ok (.if_icmp .eq 5, 3) := by decide +kernel
theorem dL_law_1944 : decode code 1944 = .ok (.iconst 0, 1) := by decide +kernel
theorem dL_law_1945 : decode code 1945 = .ok (.ireturn, 1) := by decide +kernel
theorem dL_law_1946 : decode code 1946 = .ok (.iload 5, 2) := by decide +kernel
theorem dL_law_1948 : decode code 1948 = .ok (.ifCond .ne 15, 3) := by decide +kernel
theorem dL_law_1951 : decode code 1951 = .ok (.aload_n 3, 1) := by decide +kernel
theorem dL_law_1952 : decode code 1952 = .ok (.iconst 0, 1) := by decide +kernel
theorem dL_law_1953 : decode code 1953 = .ok (.laload, 1) := by decide +kernel
theorem dL_law_1954 : decode code 1954 = .ok (.iload 6, 2) := by decide +kernel
theorem dL_law_1956 : decode code 1956 = .ok (.i2l, 1) := by decide +kernel
theorem dL_law_1957 : decode code 1957 = .ok (.lcmp, 1) := by decide +kernel
theorem dL_law_1958 : decode code 1958 = .ok (.ifCond .eq 5, 3) := by decide +kernel
theorem dL_law_1961 : decode code 1961 = .ok (.iconst 0, 1) := by decide +kernel
theorem dL_law_1962 : decode code 1962 = .ok (.ireturn, 1) := by decide +kernel
theorem dL_law_1963 : decode code 1963 = .ok (.goto 29, 3) := by decide +kernel
theorem dL_law_1966 : decode code 1966 = .ok (.aload_n 1, 1) := by decide +kernel
theorem dL_law_1967 : decode code 1967 = .ok (.invokevirtual 217, 3) := by decide +kernel
theorem dL_law_1970 : decode code 1970 = .ok (.aload_n 2, 1) := by decide +kernel
theorem dL_law_1971 : decode code 1971 = .ok (.invokevirtual 220, 3) := by decide +kernel
theorem dL_law_1974 : decode code 1974 = .ok (.if_icmp .eq 18, 3) := by decide +kernel
theorem dL_law_1977 : decode code 1977 = .ok (.iconst 0, 1) := by decide +kernel
theorem dL_law_1978 : decode code 1978 = .ok (.ireturn, 1) := by decide +kernel
theorem dL_law_1979 : decode code 1979 = .ok (.aload_n 1, 1) := by decide +kernel
theorem dL_law_1980 : decode code 1980 = .ok (.invokevirtual 221, 3) := by decide +kernel
theorem dL_law_1983 : decode code 1983 = .ok (.aload_n 2, 1) := by decide +kernel
theorem dL_law_1984 : decode code 1984 = .ok (.invokevirtual 224, 3) := by decide +kernel
theorem dL_law_1987 : decode code 1987 = .ok (.if_icmp .eq 5, 3) := by decide +kernel
theorem dL_law_1990 : decode code 1990 = .ok (.iconst 0, 1) := by decide +kernel
theorem dL_law_1991 : decode code 1991 = .ok (.ireturn, 1) := by decide +kernel
theorem dL_law_1992 : decode code 1992 = .ok (.iinc 4 6, 3) := by decide +kernel
theorem dL_law_1995 : decode code 1995 = .ok (.goto (-1972), 3) := by decide +kernel
theorem dL_law_1998 : decode code 1998 = .ok (.iconst 1, 1) := by decide +kernel
theorem dL_law_1999 : decode code 1999 = .ok (.ireturn, 1) := by decide +kernel
