/** Each sentence of the promises 1 to 39 that names a boundary case. */
public final class PromisesBoundariesTest {
    static final Sentences S = new Sentences();
    /** One of each kind of state: wed, owing, RENAMED, KEPT, a WORD, a LEDGER, a TEXT, some to be UNDONE. */
    static final String BUSY = "1x town nadam,5,9;nquinn,9,50;nzoe,8,30;n,3,0;g15;qaq; & keep & lend 1 3 7 & word zo"
        + " & rename 2 & wed 0 3 & keep & swap 1 25 & enter 0 5 & enter 16 9 & text g100;";

    static void test(int promise, String sentence) {
        S.test("Promise " + promise, sentence);
    }

    static void run(String... rows) {
        S.run(rows);
    }

    /** The same refused call in the first town and in a busy one. */
    static void refuses(String... rows) {
        for (String row : rows) {
            S.run(row);
            S.run(BUSY, row);
        }
    }

    static void range(String call, int least, int greatest) {
        S.range(BUSY, call, least, greatest);
    }

    // ---- towns

    static void promise1() {
        test(1, "As told.");
        int[] counts = {4, 20, 3, 1, 0, 0, 0, 0, 0, 0, 2};
        for (int what = 0; what < counts.length; what++) {
            run("count " + what + " = " + counts[what]);
        }
        run("undo ! NO", "back ! NO", "lay ! NO", "fault ! NONE", "wipe = 0", "unspell = 0", "close = 0", "newYear = 0");
        run("chain = 0", "payments = 0", "net 0 = 10000", "owed 0 1 = 0", "fits = 1", "sure 0 ! BAD");
    }

    static void promise2() {
        test(2, "A letter (32 to 126, as in ASCII) comes behind THE TEXT: how long it is.");
        run("write 32 = 1", "write 126 = 2", "write 31 ! BAD", "write 127 ! BAD", "count 9 = 2");
        range("write #", 32, 126);
        for (int c = 32; c <= 126; c++) {
            run("write " + c + " = 1", "write " + c + " = 2");
        }

        test(2, "BAD; OVER.");
        refuses("write 0 ! BAD", "write -1 ! BAD", "write 31 ! BAD", "write 127 ! BAD", "write 128 ! BAD", "write 288 ! BAD",
            "write LOW ! BAD", "write HIGH ! BAD");
        run("199x write 110 = 199", "write 110 = 200", "write 110 ! OVER", "write 32 ! OVER", "write 126 ! OVER",
            "write 31 ! BAD", "wipe = 200", "write 110 = 1");
    }

    static void promise3() {
        test(3, "THE TEXT is empty: how long it was.");
        run("wipe = 0", "wipe = 0", "write 110 = 1", "wipe = 1", "wipe = 0", "count 9 = 0");
        run("200x write 120", "fault = 0", "wipe = 200", "fault = NONE", "count 9 = 0", "write 120 = 1");
        run("town nab,1,1; = 1", "wipe = 8", "count 0 = 1", "person 0 0 = 2", "lay ! NO");
        run("text n,1,1;", "lay = 1", "count 9 = 6", "wipe = 6");
    }

    static void promise4() {
        test(4, "FAULT. NONE.");
        run("fault ! NONE");
        run("text n,1,1;", "fault ! NONE", "count 0 = 4");
        run("text g5;", "fault ! NONE");
        run("text n,1,1;g", "fault = 6", "count 9 = 7", "count 0 = 4", "fault = 6", "text 5;", "fault ! NONE");
        run("text x", "fault = 0");
        run(BUSY, "fault = " + "nadam,5,9;nquinn,9,50;nzoe,8,30;n,3,0;g15;qaq;".length());
        run("200x write 59", "fault = 0");
    }

    static void promise5() {
        test(5, "LAID: how many PERSONS; nobody wed, owing, RENAMED, THE WORD empty, no LEDGER, nothing UNDONE, KEPT.");
        run("text n,1,1;", "lay = 1", "lay = 1", "text " + "n,1,1;".repeat(7), "lay = 8", "count 0 = 8");
        String busy = "1x town na,1,50;nb,1,50;nc,1,1; & keep & lend 0 1 7 & word b & rename 0 & wed 0 1 & keep & swap 1 25"
            + " & enter 0 1";
        run(busy, "count 4 = 1", "count 5 = 2", "count 6 = 1", "count 7 = 4", "count 8 = 2", "lay = 3", "count 4 = 0",
            "count 5 = 0", "count 6 = 0", "count 7 = 0", "count 8 = 0", "person 0 3 = NONE", "person 1 3 = NONE",
            "owed 0 1 = 0", "person 0 4 = 0", "person 0 2 = 50", "person 1 2 = 50", "letter 0 0 = 0", "alphabet 1 0 = 1",
            "undo ! NO", "back ! NO", "sure 0 ! BAD", "fits = 1", "price 0 = 1");
        run(busy, "wipe", "text n,1,1;nz,2,3;", "lay = 2", "person 0 3 = NONE", "person 1 2 = 3", "person 2 0 ! BAD",
            "owed 0 1 = 0", "net 1 = 10000", "chain = 0");

        test(5, "NO.");
        refuses("lay ! NO");
        run("text g5;", "lay ! NO");
        run("text n,1,1;x", "lay ! NO", "count 9 = 7");
        run("text x", "lay ! NO", "wipe", "lay ! NO");
        run("town na,1,1;g9;w9;c9;oz;vz;qaa;", "text qzz;g1;w1;c1;ob;vb;n,1,1;x", "lay ! NO");
    }

    static void promise6() {
        test(6, "Of a PERSON: how long the NAME is (what = 0), what he wants (1), coins (2), whom he has wed (3; NONE), 1 if"
            + " RENAMED in this YEAR (4), how many come AHEAD of him (5), what he GETS (6), 1 if he holds OFFICE (7).");
        String town = "town nabcdef,9,99;n,0,0;nz,9,1;g9;";
        run(town, "person 0 0 = 6", "person 1 0 = 0", "person 2 0 = 1");
        run(town, "person 0 1 = 9", "person 1 1 = 0");
        run(town, "person 0 2 = 99", "person 1 2 = 0", "lend 0 1 99", "person 0 2 = 0", "person 1 2 = 99",
            "lend 1 2 99", "person 2 2 = 100");
        run(town, "person 0 3 ! NONE", "wed 0 1", "person 0 3 = 1", "person 1 3 = 0", "person 2 3 ! NONE", "undo",
            "person 0 3 ! NONE", "wed 2 1", "person 1 3 = 2", "person 2 3 = 1");
        run(town, "person 0 4 = 0", "rename 0", "person 0 4 = 1", "person 1 4 = 0", "newYear", "person 0 4 = 0");
        run(town, "person 0 5 = 0", "person 2 5 = 1", "person 1 5 = 2");
        run("town " + "n,1,1;".repeat(8), "person 0 5 = 0", "person 7 5 = 7");
        run(town, "person 0 6 = 9", "person 1 6 = 0", "person 2 6 = 0", "swap 0 25", "person 0 6 = 0", "person 2 6 = 9");
        run(town, "person 0 7 = 1", "person 1 7 = 1", "person 2 7 = 0");

        test(6, "(7). BAD.");
        for (int what = 0; what < 8; what++) {
            range("person # " + what, 0, 3);
        }
        range("person 0 #", 0, 7);
        range("person 3 #", 0, 7);
        run("town na,1,1;", "person 0 0 = 1", "person 1 0 ! BAD");
        run("town " + "n,1,1;".repeat(8), "person 7 5 = 7", "person 8 5 ! BAD", "person 7 8 ! BAD");
    }

    static void promise7() {
        test(7, "LETTER k of a NAME. NONE; BAD (k below 0).");
        run("town nabcdez,1,1;n,1,1;na,1,1;", "letter 0 0 = 0", "letter 0 5 = 25", "letter 0 6 ! NONE",
            "letter 0 HIGH ! NONE", "letter 1 0 ! NONE", "letter 1 5 ! NONE", "letter 2 0 = 0", "letter 2 1 ! NONE",
            "letter 0 -1 ! BAD", "letter 0 LOW ! BAD", "letter 1 -1 ! BAD", "letter 3 0 ! BAD", "letter 3 6 ! BAD",
            "letter -1 0 ! BAD", "letter -1 6 ! BAD");
        range("letter # 0", 0, 3);
        refuses("letter 0 -1 ! BAD", "letter 3 -1 ! BAD", "letter LOW LOW ! BAD", "letter HIGH HIGH ! BAD",
            "letter 3 0 ! NONE", "letter 0 4 ! NONE");
        run("town nabc,1,9;", "word z", "rename 0", "letter 0 0 = 25", "letter 0 1 ! NONE", "letter 0 2 ! NONE", "undo",
            "letter 0 2 = 2");
    }

    static void promise8() {
        test(8, "RANK of a LETTER (what = 0), the LETTER of a RANK (1), 1 if it is a VOWEL (2). BAD.");
        run("town n,1,1;ozy;vzq;", "alphabet 25 0 = 0", "alphabet 23 0 = 25", "alphabet 0 0 = 2", "alphabet 0 1 = 25",
            "alphabet 25 1 = 23", "alphabet 2 1 = 0", "alphabet 25 2 = 1", "alphabet 16 2 = 1", "alphabet 0 2 = 0");
        for (int what = 0; what < 3; what++) {
            range("alphabet # " + what, 0, 25);
        }
        range("alphabet 0 #", 0, 2);
        range("alphabet 25 #", 0, 2);
        refuses("alphabet LOW LOW ! BAD", "alphabet 26 3 ! BAD");
    }

    static void promise9() {
        test(9, "Whether two LETTERS QUARREL: 1, 0. BAD.");
        run("town n,1,1;qaz;qbb;", "quarrel 0 25 = 1", "quarrel 25 0 = 1", "quarrel 0 0 = 0", "quarrel 25 25 = 0",
            "quarrel 1 1 = 1", "quarrel 1 0 = 0");
        range("quarrel # 0", 0, 25);
        range("quarrel # 25", 0, 25);
        range("quarrel 0 #", 0, 25);
        range("quarrel 25 #", 0, 25);
        refuses("quarrel -1 -1 ! BAD", "quarrel 26 26 ! BAD", "quarrel LOW HIGH ! BAD");
    }

    // ---- changes

    static void promise10() {
        test(10, "A LETTER comes behind THE WORD: how long it is.");
        run("town nzaazaz,1,1;", "spell 25 = 1", "spell 0 = 2", "spell 0 = 3", "spell 25 = 4", "spell 0 = 5", "price 0 = 1",
            "spell 25 = 6", "count 4 = 6", "price 0 = 0");

        test(10, "BAD; OVER.");
        range("spell #", 0, 25);
        refuses("spell -1 ! BAD", "spell 26 ! BAD", "spell LOW ! BAD", "spell HIGH ! BAD");
        run("word abcdef", "spell 0 ! OVER", "spell 25 ! OVER", "spell 26 ! BAD", "spell -1 ! BAD", "unspell = 6",
            "spell 0 = 1");
    }

    static void promise11() {
        test(11, "THE WORD is empty: how long it was.");
        run("unspell = 0", "unspell = 0", "spell 0", "unspell = 1", "count 4 = 0", "word abcdef", "unspell = 6",
            "unspell = 0", "price 3 = 0", "price 0 = 4", "spell 25 = 1", "price 2 = 2");
    }

    static void promise12() {
        test(12, "What it costs to RENAME a PERSON to THE WORD.");
        run("town nabcdef,1,0;n,1,0;c9;", "price 0 = 54", "price 1 = 0", "word abcdef", "price 0 = 0", "price 1 = 54",
            "word z", "price 0 = 54", "price 1 = 9");
        run("town nabcdef,1,0;c0;", "price 0 = 0");
        run("town na,1,1;", "word b", "rename 0 = 0", "price 0 = 0", "word c", "price 0 = 1", "person 0 4 = 1");

        test(12, "BAD.");
        range("price #", 0, 3);
        refuses("price 4 ! BAD", "price -1 ! BAD", "price LOW ! BAD", "price HIGH ! BAD");
    }

    static void promise13() {
        test(13, "A PERSON is RENAMED to THE WORD: coins left.");
        run("town nabcdef,1,6;", "word zyxwvu", "rename 0 = 0", "letter 0 0 = 25", "letter 0 5 = 20", "person 0 0 = 6",
            "person 0 4 = 1", "count 4 = 6", "count 7 = 1");
        run("town nab,1,99;", "rename 0 = 97", "person 0 0 = 0", "letter 0 0 = NONE", "person 0 7 = 1");
        run("town n,1,99;c9;", "word abcdef", "rename 0 = 45", "person 0 0 = 6");
        run("town na,1,1;nb,1,1;", "wed 0 1", "lend 0 1 1", "word", "rename 1 = 1", "person 0 3 = 1", "owed 0 1 = 1");

        test(13, "BAD; NO.");
        run("town nabcdef,1,5;nabcde,1,5;", "rename 0 ! NO", "rename 1 = 0", "rename 1 ! NO", "person 0 4 = 0");
        run("town na,1,9;", "word a", "rename 0 = 9", "rename 0 ! NO", "undo", "rename 0 = 9");
        run(BUSY, "rename 2 ! NO", "rename 0 = 5", "rename 0 ! NO");
        range("rename #", 0, 3);
        refuses("rename 4 ! BAD", "rename -1 ! BAD", "rename LOW ! BAD", "rename HIGH ! BAD");
        run("rename 4 ! BAD", "rename -1 ! BAD", "word abcdef", "rename 3 ! NO", "rename 1 ! NO");
    }

    static void promise14() {
        test(14, "Whether two MAY WED: 1, 0.");
        run("town na,0,0;na,0,0;nb,0,0;w0;", "may 0 1 = 1", "may 1 2 = 0", "wed 0 1", "may 0 1 = 0", "may 1 0 = 0");
        run("town na,0,0;nz,0,0;w25;", "may 0 1 = 1", "may 1 0 = 1", "count 5 = 0", "count 7 = 0");
        run("town na,0,0;nz,0,0;w25;qza;", "may 0 1 = 0");
        run("town na,0,0;nz,0,0;w24;", "may 0 1 = 0", "swap 0 1", "may 0 1 = 1");

        test(14, "BAD (alike, too).");
        refuses("may 0 0 ! BAD", "may 3 3 ! BAD", "may 4 4 ! BAD", "may -1 -1 ! BAD", "may LOW HIGH ! BAD");
        range("may # 1", 0, 3);
        range("may 1 #", 0, 3);
        run("town na,0,0;", "may 0 0 ! BAD", "may 0 1 ! BAD", "may 1 0 ! BAD");
    }

    static void promise15() {
        test(15, "Two wed: how many have.");
        run("town " + "n,0,0;".repeat(8), "wed 0 7 = 2", "person 0 3 = 7", "person 7 3 = 0", "wed 6 1 = 4", "wed 2 3 = 6",
            "wed 4 5 = 8", "count 5 = 8", "wed 0 7 ! NO", "undo", "count 5 = 6", "wed 5 4 = 8");
        run("town na,0,0;nb,0,0;", "wed 1 0 = 2", "person 0 3 = 1", "person 1 3 = 0");
        run("town " + "n,0,0;".repeat(8), "wed 7 0 = 2", "person 0 3 = 7", "person 7 3 = 0", "wed 6 5 = 4", "person 5 3 = 6");

        test(15, "BAD; NO.");
        run("town na,0,0;nd,0,0;ne,0,0;nd,0,0;qdd;", "wed 0 2 ! NO", "wed 1 3 ! NO", "wed 0 1 = 2", "wed 0 1 ! NO",
            "wed 1 0 ! NO", "wed 0 3 ! NO", "wed 3 0 ! NO", "wed 2 1 ! NO", "wed 2 3 = 4");
        refuses("wed 0 0 ! BAD", "wed 3 3 ! BAD", "wed 4 4 ! BAD", "wed LOW HIGH ! BAD");
        range("wed # 1", 0, 3);
        range("wed 1 #", 0, 3);
        run("town na,0,0;", "wed 0 0 ! BAD", "wed 0 1 ! BAD", "wed 1 0 ! BAD");
    }

    static void promise16() {
        test(16, "PERSON i LENDS n (1 to 99) to j: what j owes him.");
        run("town na,0,99;nb,0,0;", "lend 0 1 99 = 99", "person 0 2 = 0", "person 1 2 = 99", "owed 0 1 = 99",
            "owed 1 0 = 0");
        run("town na,0,99;nb,0,0;", "lend 0 1 1 = 1", "lend 0 1 98 = 99", "count 7 = 2");
        range("lend 1 3 #", 1, 99);
        refuses("lend 1 3 0 ! BAD", "lend 1 3 -1 ! BAD", "lend 1 3 100 ! BAD", "lend 1 3 LOW ! BAD", "lend 1 3 HIGH ! BAD");
        run("town n,0,99;n,0,99;n,0,99;", "lend 0 1 99", "lend 2 1 99", "person 1 2 = 297", "lend 1 0 100 ! BAD",
            "lend 1 0 99 = 99");

        test(16, "BAD (alike, too); NO (above 999, too).");
        refuses("lend 0 0 1 ! BAD", "lend 3 3 1 ! BAD", "lend 3 3 0 ! BAD", "lend LOW LOW LOW ! BAD");
        range("lend # 1 1", 0, 3);
        range("lend 1 # 1", 0, 3);
        run("town na,0,9;na,0,9;nb,0,9;nz,0,9;", "lend 0 1 1 ! NO", "lend 2 0 1 ! NO", "lend 0 2 10 ! NO", "lend 0 2 9 = 9",
            "lend 0 2 1 ! NO", "lend 2 3 18 = 18", "lend 3 2 1 ! NO");
        run("town n,0,99;n,0,99;", "10x lend 0 1 99 & lend 1 0 99", "lend 0 1 99 ! NO", "lend 0 1 10 ! NO",
            "lend 0 1 9 = 999", "lend 0 1 1 ! NO", "owed 0 1 = 999", "person 0 2 = 90", "undo = 7", "owed 0 1 = 990");
        run("town n,0,0;n,0,0;", "lend 0 1 1 ! NO");
    }

    static void promise17() {
        test(17, "PERSON i is REPAID n (1 to 99) by j: what j owes him still.");
        run("town na,0,99;nb,0,0;", "lend 0 1 99", "repay 0 1 1 = 98", "repay 0 1 98 = 0", "person 0 2 = 99",
            "person 1 2 = 0", "count 7 = 3");
        run("town na,0,99;nb,0,0;", "lend 0 1 99", "repay 0 1 99 = 0", "person 0 2 = 99", "owed 0 1 = 0");
        range("repay 1 3 #", 1, 99);
        refuses("repay 1 3 0 ! BAD", "repay 1 3 -1 ! BAD", "repay 1 3 100 ! BAD", "repay 1 3 LOW ! BAD",
            "repay 1 3 HIGH ! BAD");

        test(17, "BAD (alike, too); NO: not owed or had so much.");
        refuses("repay 0 0 1 ! BAD", "repay 3 3 1 ! BAD", "repay LOW LOW LOW ! BAD");
        range("repay # 1 1", 0, 3);
        range("repay 1 # 1", 0, 3);
        run("town na,0,9;nb,0,9;nc,0,9;", "repay 0 1 1 ! NO", "lend 0 1 5", "repay 0 1 6 ! NO", "repay 1 0 1 ! NO",
            "lend 1 2 10", "repay 0 1 5 ! NO", "repay 0 1 4 = 1", "repay 0 1 1 ! NO", "repay 1 2 10 = 0", "repay 0 1 1 = 0",
            "repay 0 1 1 ! NO");
        run("town na,0,9;nb,0,9;", "lend 0 1 9", "swap 0 1", "lend 0 1 1 = NO", "repay 0 1 9 = 0");
    }

    static void promise18() {
        test(18, "Two LETTERS of THE ALPHABET change places: RANK of x then.");
        run("swap 0 25 = 25", "alphabet 0 0 = 25", "alphabet 25 0 = 0", "alphabet 0 1 = 25", "alphabet 25 1 = 0",
            "swap 0 25 = 0", "count 7 = 2");
        run("swap 25 0 = 0", "swap 24 0 = 25", "alphabet 0 0 = 24", "alphabet 24 1 = 0");
        run("town nab,1,1;nzb,1,1;qaz;vz;", "swap 0 25", "person 0 5 = 1", "letter 0 0 = 0", "quarrel 0 25 = 1",
            "alphabet 25 2 = 1", "alphabet 0 2 = 0");

        test(18, "BAD (alike, too).");
        refuses("swap 0 0 ! BAD", "swap 25 25 ! BAD", "swap 26 26 ! BAD", "swap -1 -1 ! BAD", "swap LOW HIGH ! BAD");
        range("swap # 1", 0, 25);
        range("swap 1 #", 0, 25);
    }

    static void promise19() {
        test(19, "A new YEAR: how many had been RENAMED.");
        run("newYear = 0", "count 7 = 1", "newYear = 0", "count 7 = 2");
        String all = "1x rename 0 & rename 1 & rename 2 & rename 3 & rename 4 & rename 5 & rename 6 & rename 7";
        run("town " + "n,0,0;".repeat(8), all, "newYear = 8", "newYear = 0", "undo", "undo", "person 7 4 = 1",
            "newYear = 8");
        run("town n,0,0;n,0,0;", "rename 1", "newYear = 1", "person 1 4 = 0", "rename 1 = 0");
        run("town na,0,5;nb,0,5;", "wed 0 1", "lend 0 1 2", "word b", "rename 0 = 2", "newYear = 1", "owed 0 1 = 2",
            "person 0 3 = 1", "person 0 2 = 2", "letter 0 0 = 1", "count 4 = 1");
    }

    static void promise20() {
        test(20, "UNDONE: how many more can be.");
        run("swap 0 1", "undo = 0", "swap 0 1", "swap 1 2", "undo = 1", "undo = 0");
        String[] rows = new String[20];
        rows[0] = "town na,0,99;nb,0,0;";
        for (int k = 1; k <= 9; k++) {
            rows[k] = "lend 0 1 " + k;
        }
        int owed = 45;
        for (int k = 9; k >= 2; k--) {
            owed -= k;
            rows[19 - k] = "undo = " + (k - 2);
        }
        rows[18] = "owed 0 1 = " + owed;
        rows[19] = "undo ! NO";
        run(rows);
        run("9x newYear", "8x undo = 0", "undo ! NO");

        test(20, "NO.");
        run("undo ! NO", "undo ! NO", "word ab", "enter 0 1", "keep", "undo ! NO");
        run("rename 4", "wed 0 0", "lend 0 0 1", "repay 0 1 1", "swap 0 0", "rename 9", "wed 0 2", "lend 3 0 1", "undo ! NO",
            "count 7 = 0");
        run("swap 0 1", "undo = 0", "undo ! NO");
        run("keep", "swap 0 1", "back", "undo ! NO");
        run("text n,1,1;", "swap 0 1", "lay", "undo ! NO");
    }

    // ---- names

    static void promise21() {
        test(21, "CHANGE: the LETTER (what = 0), as much and 100 (1).");
        run("town nz,9,0;nb,9,0;g9;c0;", "change 0 0 = 0", "change 0 1 = 109", "change 1 0 = 0", "change 1 1 = 109",
            "letter 0 0 = 25");
        run("town nz,9,0;nb,9,0;g9;c9;", "change 0 0 = 0", "change 0 1 = 100", "change 1 0 = 1", "change 1 1 = 109");
        run("town nz,9,0;nb,9,0;g8;c9;", "change 0 0 = 25", "change 0 1 = 100");
        run("town nz,0,0;g0;c9;", "change 0 0 = 25", "change 0 1 = 100");

        test(21, "BAD; NO: NAMELESS.");
        refuses("change 3 0 ! NO", "change 3 1 ! NO", "change 3 2 ! BAD", "change 3 -1 ! BAD", "change 0 2 ! BAD",
            "change LOW LOW ! BAD", "change 4 0 ! BAD", "change 4 1 ! BAD");
        range("change # 0", 0, 3);
        range("change # 1", 0, 3);
        range("change 0 #", 0, 1);
        range("change 3 #", 0, 1);
        run("town n,9,9;", "change 0 0 ! NO", "word b", "rename 0", "change 0 0 = 1", "word", "newYear", "rename 0",
            "change 0 0 ! NO");
    }

    static void promise22() {
        test(22, "RUN: how many rounds (i = -1; NONE), the first LETTER of a PERSON (NONE: NAMELESS).");
        run("town nz,0,0;g0;c9;", "run -1 = 0", "run 0 = 25");
        run("town nz,9,0;nz,9,0;g9;c0;", "run -1 = 1", "run 0 = 0", "run 1 = 0", "letter 1 0 = 25");
        run("town ng,6,0;nm,3,0;nm,2,0;g9;c1;", "run -1 = 3", "run 0 = 0");
        run("town n,9,0;", "run -1 = 0", "run 0 ! NONE");
        run("town nb,9,0;n,9,0;c0;", "run -1 = 1", "run 0 = 0", "run 1 ! NONE");
        run("town nb,5,0;nb,4,0;nb,9,0;nd,5,0;nd,7,0;nd,4,0;nd,7,0;ne,7,0;g45;c3;", "run -1 = 8", "run 7 = 0");

        test(22, "(NONE: NAMELESS). BAD.");
        range("run #", -1, 3);
        refuses("run -2 ! BAD", "run 4 ! BAD", "run LOW ! BAD", "run HIGH ! BAD", "run 3 ! NONE");
        run("town " + "n,0,0;".repeat(8), "run 7 ! NONE", "run 8 ! BAD");
    }

    static void promise23() {
        test(23, "SHORTEST for PERSON i by RIGHTS (0 to 7): how long (what = 0), LETTERS (1, 2, 3).");
        run("shortest 2 0 0 0 0 = 1", "shortest 2 0 0 0 1 = 0", "shortest 2 7 1 1 0 = 1", "shortest 2 7 1 1 1 = 14");
        for (int i = 0; i < 4; i++) {
            run("shortest " + i + " 0 0 0 0 = 1", "shortest " + i + " 0 3 3 1 = 0");
        }
        range("shortest 0 # 1 1 0", 0, 7);
        range("shortest 0 # 1 1 3", 0, 7);

        test(23, "NONE (not so long, too); BAD.");
        run("shortest 2 0 0 0 2 ! NONE", "shortest 2 0 0 0 3 ! NONE", "shortest 2 0 0 0 4 ! BAD", "shortest 1 2 1 0 0 ! NONE",
            "shortest 1 2 1 0 1 ! NONE", "shortest 1 2 1 0 2 ! NONE", "shortest 1 2 1 0 3 ! NONE",
            "shortest 1 5 0 2 0 ! NONE");
        range("shortest # 0 1 1 0", 0, 3);
        range("shortest 0 0 # 1 0", 0, 3);
        range("shortest 0 0 1 # 0", 0, 3);
        range("shortest 0 2 # 1 0", 0, 3);
        range("shortest 0 4 1 # 0", 0, 3);
        range("shortest 0 0 1 1 #", 0, 3);
        refuses("shortest 0 8 0 0 0 ! BAD", "shortest 0 -1 0 0 0 ! BAD", "shortest LOW LOW LOW LOW LOW ! BAD",
            "shortest 0 2 0 0 0 ! NONE", "shortest 0 2 0 0 4 ! BAD");
    }

    // ---- weddings

    static void promise24() {
        test(24, "MATCH: how many (i = -1), whom PERSON i weds.");
        run("town " + "n,0,0;".repeat(8), "match -1 = 4", "match 0 = 1", "match 7 = 6", "person 0 3 = NONE", "count 5 = 0");
        run("town " + "n,0,0;".repeat(7), "match -1 = 3", "match 5 = 4", "match 6 ! NONE");

        test(24, "NONE; BAD.");
        run("town n,0,0;", "match -1 = 0", "match 0 ! NONE", "match 1 ! BAD", "match -2 ! BAD");
        run("town n,0,0;n,0,0;", "match 0 = 1", "wed 0 1", "match -1 = 0", "match 0 ! NONE", "match 1 ! NONE");
        range("match #", -1, 3);
        refuses("match -2 ! BAD", "match 4 ! BAD", "match LOW ! BAD", "match HIGH ! BAD", "match 1 ! NONE");
        run("town " + "n,0,0;".repeat(8), "match 8 ! BAD");
    }

    static void promise25() {
        test(25, "WIDE. NONE; BAD.");
        run("town na,0,0;nz,0,0;w0;", "wide 1 = 25", "wide 2 ! NONE", "wide 3 ! NONE", "wide 4 ! NONE", "wide 5 ! BAD",
            "wide 0 ! BAD", "count 2 = 0");
        run("town na,0,0;na,0,0;w25;", "wide 1 = 0", "count 2 = 25");
        run("town na,0,0;nb,0,0;w25;", "wide 1 = 1");
        run("town na,0,0;ny,0,0;w25;", "wide 1 = 24");
        run("town na,0,0;nz,0,0;qaz;", "wide 1 ! NONE");
        run("town " + "n,0,0;".repeat(8), "wide 4 = 0", "wide 5 ! BAD");
        range("wide #", 1, 4);
        refuses("wide 0 ! BAD", "wide -1 ! BAD", "wide 5 ! BAD", "wide LOW ! BAD", "wide HIGH ! BAD", "wide 4 ! NONE");
    }

    // ---- debts

    static void promise26() {
        test(26, "What j owes i. BAD.");
        run("town n,0,99;n,0,99;", "owed 0 1 = 0", "owed 0 0 = 0", "lend 0 1 99", "owed 0 1 = 99", "owed 1 0 = 0",
            "owed 0 0 = 0", "owed 1 1 = 0", "repay 0 1 99", "owed 0 1 = 0");
        run("town n,0,99;n,0,99;", "10x lend 0 1 99 & lend 1 0 99", "lend 0 1 9", "owed 0 1 = 999", "owed 1 0 = 990");
        run("town " + "n,0,99;".repeat(8), "lend 7 0 5", "lend 0 7 6", "owed 7 0 = 5", "owed 0 7 = 6");
        range("owed # 0", 0, 3);
        range("owed # 3", 0, 3);
        range("owed 0 #", 0, 3);
        range("owed 3 #", 0, 3);
        refuses("owed 4 4 ! BAD", "owed LOW HIGH ! BAD");
    }

    static void promise27() {
        test(27, "NET and 10000. BAD.");
        run("net 0 = 10000", "net 3 = 10000");
        run("town n,0,99;n,0,99;n,0,99;n,0,99;n,0,99;n,0,99;n,0,99;n,0,99;", "lend 0 7 99", "lend 1 7 99", "lend 2 7 99",
            "lend 3 7 99", "lend 4 7 99", "lend 5 7 99", "lend 6 7 99", "net 7 = 9307", "net 6 = 10099", "net 0 = 10099",
            "repay 0 7 99", "net 7 = 9406", "net 0 = 10000");
        range("net #", 0, 3);
        refuses("net 4 ! BAD", "net -1 ! BAD", "net LOW ! BAD", "net HIGH ! BAD");
    }

    static void promise28() {
        test(28, "CHAIN. NONE.");
        String row = "town " + "n,0,9;".repeat(8);
        run(row, "chain = 0", "lend 6 7 1", "chain = 1", "lend 5 6 1", "lend 4 5 1", "lend 3 4 1", "lend 2 3 1",
            "lend 1 2 1", "lend 0 1 1", "chain = 7", "lend 7 0 1", "chain ! NONE", "undo", "chain = 7");
        run(row, "lend 7 6 1", "lend 6 5 1", "lend 5 4 1", "lend 4 3 1", "lend 3 2 1", "lend 2 1 1", "lend 1 0 1",
            "chain = 7", "lend 0 1 1", "chain ! NONE");
        run("town n,0,9;n,0,9;", "lend 0 1 1", "lend 1 0 1", "chain ! NONE");
        run("town n,0,9;", "chain = 0");
    }

    static void promise29() {
        test(29, "PAYMENTS.");
        String eight = "town " + "n,0,99;".repeat(8);
        run(eight, "payments = 0", "lend 7 0 1", "payments = 1", "lend 0 7 1", "payments = 0");
        run(eight, "lend 0 7 1", "lend 1 7 1", "lend 2 7 1", "lend 3 7 1", "lend 4 7 1", "lend 5 7 1", "lend 6 7 1",
            "payments = 7", "count 7 = 7");
        run(eight, "lend 0 1 1", "lend 1 2 1", "lend 2 3 1", "lend 3 4 1", "lend 4 5 1", "lend 5 6 1", "lend 6 7 1",
            "payments = 1");
        run("town n,0,9;", "payments = 0");
    }

    // ---- seats, letters, ledgers

    static void promise30() {
        test(30, "SEATS: how many quarrels (k = -1), in how many ways (-2), who sits at place k. BAD.");
        run("town na,0,0;qaa;", "seats -2 = 1", "seats -1 = 0", "seats 0 = 0", "seats 1 ! BAD", "seats -3 ! BAD");
        run("town na,0,0;na,0,0;qaa;", "seats -2 = 1", "seats -1 = 1", "seats 1 = 1", "seats 2 ! BAD");
        run("town " + "na,0,0;".repeat(8) + "qaa;", "seats -2 = 5040", "seats -1 = 8", "seats 7 = 7", "seats 8 ! BAD");
        run("seats -2 = 2", "seats -1 = 0", "seats 0 = 0", "seats 1 = 2", "seats 2 = 1", "seats 3 = 3");
        range("seats #", -2, 3);
        refuses("seats -3 ! BAD", "seats 4 ! BAD", "seats LOW ! BAD", "seats HIGH ! BAD");
    }

    static void promise31() {
        test(31, "SWAP: the two (what = 0), how many are FULL (1). NONE; BAD.");
        run("town na,9,0;nz,1,0;g1;", "bestSwap 0 = 25", "bestSwap 1 = 1", "bestSwap 2 ! BAD", "bestSwap -1 ! BAD",
            "alphabet 0 0 = 0", "swap 0 25", "bestSwap 0 ! NONE", "bestSwap 1 ! NONE");
        run("town " + "na,9,0;".repeat(7) + "nb,0,0;g0;", "bestSwap 0 ! NONE");
        run("town nz,9,0;ny,9,0;nx,9,0;nw,9,0;na,9,0;nb,9,0;nc,9,0;nd,9,0;g72;", "count 10 = 8", "bestSwap 0 ! NONE");
        run("town na,9,0;", "bestSwap 0 ! NONE", "bestSwap 1 ! NONE", "bestSwap 2 ! BAD");
        range("bestSwap #", 0, 1);
        refuses("bestSwap 2 ! BAD", "bestSwap -1 ! BAD", "bestSwap LOW ! BAD", "bestSwap HIGH ! BAD", "bestSwap 0 ! NONE");
    }

    static void promise32() {
        test(32, "A row more in THE LEDGER: how many. BAD; OVER.");
        run("enter 0 0 = 1", "enter 25 9 = 2", "enter 0 0 = 3", "enter 1 1 = 4", "enter 2 2 = 5", "enter 3 3 = 6",
            "enter 4 4 = 7", "enter 5 5 = 8", "enter 6 6 ! OVER", "enter 26 6 ! BAD", "enter 6 10 ! BAD", "count 6 = 8",
            "close = 8", "enter 6 6 = 1");
        range("enter # 0", 0, 25);
        range("enter # 9", 0, 25);
        range("enter 0 #", 0, 9);
        range("enter 25 #", 0, 9);
        refuses("enter 26 10 ! BAD", "enter LOW LOW ! BAD");
    }

    static void promise33() {
        test(33, "No LEDGER: how many rows it had.");
        run("close = 0", "close = 0", "enter 0 5", "sure 0 = 0", "close = 1", "sure 0 ! BAD", "count 6 = 0", "fits = 1",
            "8x enter 25 1", "fits = 0", "close = 8", "close = 0", "fits = 1");
    }

    static void promise34() {
        test(34, "FITS.");
        run("fits = 1", "enter 0 5", "fits = 1", "enter 0 5", "fits = 0");
        run("town " + "na,0,0;".repeat(8), "8x enter 0 0", "fits = 40320");
        run("town " + "na,0,0;".repeat(7), "7x enter 0 0", "fits = 5040", "enter 0 0", "fits = 0");
        run("town nz,9,0;g9;", "enter 25 9", "fits = 1");
        run("town na,9,0;na,9,0;nb,0,0;g9;", "enter 0 9", "fits = 1", "enter 0 0", "fits = 1", "enter 1 0", "fits = 1");
    }

    static void promise35() {
        test(35, "SURE of a row. NONE; BAD.");
        run("sure 0 ! BAD", "enter 0 5", "sure 0 = 0", "sure 1 ! BAD", "sure -1 ! BAD", "enter 25 9", "sure 0 ! NONE",
            "sure 1 ! NONE", "sure 2 ! BAD");
        run("town " + "na,1,0;".repeat(7) + "nb,1,0;g8;", "7x enter 0 1", "enter 1 1", "enter 0 1 ! OVER", "sure 7 = 7", "sure 6 ! NONE",
            "sure 0 ! NONE", "sure 8 ! BAD", "sure LOW ! BAD", "sure HIGH ! BAD");
        range("sure #", 0, 1);
        refuses("sure -1 ! BAD", "sure 8 ! BAD", "sure LOW ! BAD", "sure HIGH ! BAD");
    }

    static void promise36() {
        test(36, "A YEAR: how many are FULL (what = 0), hold OFFICE (1). BAD.");
        run("town " + "n,9,0;".repeat(8) + "g72;", "year 0 0 = 8", "year 0 1 = 8", "year 9999 0 = 8", "year 9999 1 = 8");
        run("town " + "nb,9,0;".repeat(8) + "g0;va;", "year 0 0 = 0", "year 9999 0 = 0", "letter 0 0 = 1");
        // By z 0 PERSON 0 has b, by x = 1.
        run("town nz,1,0;vb;", "year 0 1 = 1");
        run("town nz,1,0;va;", "year 0 1 = 0");
        range("year # 0", 0, 9999);
        range("year # 1", 0, 9999);
        range("year 0 #", 0, 1);
        range("year 9999 #", 0, 1);
        refuses("year -1 0 ! BAD", "year 10000 1 ! BAD", "year 0 2 ! BAD", "year LOW LOW ! BAD");
    }

    static void promise37() {
        test(37, "KEPT: how many. OVER.");
        run("keep = 1", "keep = 2", "keep ! OVER", "swap 0 1", "keep ! OVER", "count 8 = 2", "back = 1", "keep = 2",
            "keep ! OVER", "back = 1", "back = 0", "keep = 1");
        run("swap 0 1", "keep = 1", "count 7 = 1", "undo = 0", "alphabet 0 0 = 0", "back = 0", "alphabet 0 0 = 1");
        run(BUSY, "keep ! OVER");
    }

    static void promise38() {
        test(38, "As KEPT last: how many are left; nothing is UNDONE then. NO.");
        run("back ! NO", "swap 0 1", "back ! NO", "count 7 = 1", "undo = 0");
        run("keep", "swap 0 1", "keep", "swap 1 2", "back = 1", "count 7 = 0", "undo ! NO", "alphabet 0 0 = 1",
            "swap 3 4", "back = 0", "count 7 = 0", "undo ! NO", "alphabet 0 0 = 0", "alphabet 3 0 = 3", "back ! NO");
        run("8x swap 0 1", "keep", "back = 0", "count 7 = 0", "undo ! NO");
        run("town na,1,9;nb,1,9;", "keep", "word b", "rename 0", "wed 0 1", "lend 1 0 1 = NO", "back = 0",
            "person 0 3 = NONE", "person 0 4 = 0", "letter 0 0 = 0", "person 0 2 = 9", "count 4 = 1", "rename 0 = 8");
        run("keep", "text n,1,1;", "back = 0", "count 9 = 6", "fault = NONE", "lay = 1", "back ! NO");
    }

    static void promise39() {
        test(39, "How many: 0 PERSONS, 1 goods, 2 W, 3 C, 4 LETTERS of THE WORD, 5 that have wed, 6 rows of THE LEDGER, 7 that"
            + " can be UNDONE, 8 KEPT, 9 letters of THE TEXT, 10 FULL.");
        String least = "town n,1,0;g0;w0;c0;";
        int[] few = {1, 0, 0, 0, 0, 0, 0, 0, 0, 0, 0};
        String most = "1x town " + "n,9,0;".repeat(8) + "g99;w25;c9; & word abcdef & wed 0 1 & wed 2 3 & wed 4 5 & wed 6 7"
            + " & swap 0 1 & swap 0 1 & swap 0 1 & swap 0 1 & keep & keep & text " + " ".repeat(200 - 59)
            + " & enter 0 0 & enter 0 0 & enter 0 0 & enter 0 0 & enter 0 0 & enter 0 0 & enter 0 0 & enter 0 0";
        int[] many = {8, 99, 25, 9, 6, 8, 8, 8, 2, 200, 8};
        for (int what = 0; what <= 10; what++) {
            run(least, "wipe", "count " + what + " = " + few[what]);
            run(most, "count " + what + " = " + many[what]);
        }

        test(39, "10 FULL. BAD.");
        range("count #", 0, 10);
        refuses("count -1 ! BAD", "count 11 ! BAD", "count LOW ! BAD", "count HIGH ! BAD");
    }

    public static void main(String[] args) {
        promise1();
        promise2();
        promise3();
        promise4();
        promise5();
        promise6();
        promise7();
        promise8();
        promise9();
        promise10();
        promise11();
        promise12();
        promise13();
        promise14();
        promise15();
        promise16();
        promise17();
        promise18();
        promise19();
        promise20();
        promise21();
        promise22();
        promise23();
        promise24();
        promise25();
        promise26();
        promise27();
        promise28();
        promise29();
        promise30();
        promise31();
        promise32();
        promise33();
        promise34();
        promise35();
        promise36();
        promise37();
        promise38();
        promise39();
        S.needEveryPromise();
        System.exit(S.end());
    }
}
