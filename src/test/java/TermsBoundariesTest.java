/** Each sentence of "What it is" and of the Terms that names a boundary case. */
public final class TermsBoundariesTest {
    static final Sentences S = new Sentences();
    static final int NONE = -4;
    static final String EIGHT = "nabcdef,9,99;".repeat(8);
    /** 8 PERSONS of 13 letters each, then as many goods as fit in: 196 letters. */
    static final String NEARLY_FULL = EIGHT + "g99;".repeat(23);

    /** The last PERSON has the longest NAME. */
    static final String LAST = "town " + "n,1,9;".repeat(7) + "nabcdef,1,9;";

    static void test(String sentence) {
        S.test("Terms", sentence);
    }

    static void run(String... rows) {
        S.run(rows);
    }

    static void fault(String text, int place) {
        S.fault(text, place);
    }

    static void faults(int place, String... texts) {
        for (String text : texts) {
            S.fault(text, place);
        }
    }

    static void noFault(String... texts) {
        for (String text : texts) {
            S.run("text " + text, "fault ! NONE");
        }
    }

    // ---- 1: texts

    static void texts() {
        test("A TEXT is letters (200 at most)");
        run("fault ! NONE", "count 9 = 0", "lay ! NO");
        run("text " + NEARLY_FULL + "g07; = 200", "count 9 = 200", "write 59 ! OVER", "write 65 ! OVER", "fault = NONE", "lay = 8",
            "count 1 = 7", "count 9 = 200");
        run("text " + NEARLY_FULL + "c1;g = 200", "fault = 199", "write 53 ! OVER", "fault = 199", "lay ! NO");
        run("text " + NEARLY_FULL + "c1; = 199", "lay = 8", "write 59 = 200", "fault = 199", "lay ! NO");

        test("ITEMS one behind the other, each a first letter, then what it tells and a ; behind that");
        noFault("n,1,1;", "n,1,1;n,2,2;", "g5;n,1,1;", "qab;vz;oz;c1;w1;g1;n,1,1;");
        faults(0, "n,1,1", "g5", "w5", "c5", "oab", "vab", "qab", ";", ";n,1,1;", " n,1,1;", "n;", "g;", "w;", "c;",
            "o;", "v;", "q;", "n", "g", "w", "c", "o", "v", "q", "5;", "n,1,1:", "g5,");
        faults(6, "n,1,1;;", "n,1,1; ", "n,1,1; g5;", "n,1,1;g5", "n,1,1;n,1,1", "n,1,1;n", "n,1,1;5;", "n,1,1;g5:");
        for (int c = 32; c <= 126; c++) {
            run("text n,1,1;", "write " + c, "text ,1,1;", "fault = " + (c == 'n' ? NONE : 6));
            run("text n,1,1;", "write " + c, "text 5;", "fault = " + ("gwc".indexOf(c) >= 0 ? NONE : 6));
            run("text n,1,1;", "write " + c, "text ab;", "fault = " + ("ovq".indexOf(c) >= 0 ? NONE : 6));
        }

        test("numbers of one or two figures");
        noFault("n,0,0;", "n,09,09;", "n,00,00;", "g0;", "g00;", "g09;", "w00;", "w09;", "c00;", "c09;");
        faults(0, "n,,1;", "n,1,;", "g;", "w;", "c;", "n,001,1;", "n,1,001;", "g001;", "w001;", "c001;", "n,000,0;",
            "g/;", "g:;", "g1/;", "g1:;", "g-1;", "g+1;", "g 1;", "g1 ;", "w/;", "w:;", "c/;", "c:;", "n,/,1;", "n,:,1;",
            "n,1,/;", "n,1,:;", "ga;", "n,a,1;", "n,1,a;");
        run("town n,07,08;g09;w04;c02;", "person 0 1 = 7", "person 0 2 = 8", "count 1 = 9", "count 2 = 4", "count 3 = 2");

        test("NAMES of LETTERS a to z");
        run("town naz,1,1;", "letter 0 0 = 0", "letter 0 1 = 25");
        noFault("oaz;", "vaz;", "qaz;");
        faults(0, "n`,1,1;", "n{,1,1;", "nA,1,1;", "nZ,1,1;", "n1,1,1;", "na`,1,1;", "na{,1,1;", "na b,1,1;", "o`;",
            "o{;", "oA;", "o1;", "v`;", "v{;", "vA;", "v1;", "qa`;", "q{a;", "qaA;", "q1a;");

        test("parted by ,");
        faults(0, "na.1,1;", "na,1.1;", "na1,1;", "na,11;", "na,1;", "na,1,1,;", "na,1,1,1;", "na,1,,1;", "na,,1,1;",
            "n,a,1,1;", "n,1;", "na;1,1;", "na 1 1;", "g1,;", "g1,1;", "g,1;", "w,1;", "c,1;", "oa,b;", "va,b;", "qa,b;",
            "q,ab;");
    }

    static void persons() {
        test("nNAME,A,C a PERSON of a NAME (0 to 6 LETTERS; of none:");
        run("town n,1,1;", "person 0 0 = 0", "letter 0 0 = NONE", "person 0 7 = 1");
        run("town nz,1,1;", "person 0 0 = 1", "letter 0 0 = 25", "letter 0 1 = NONE", "person 0 7 = 0");
        run("town nabcdef,1,1;", "person 0 0 = 6", "letter 0 5 = 5", "letter 0 6 = NONE");
        faults(0, "nabcdefg,1,1;", "nabcdefgh,1,1;");
        fault("nabcdef,1,1;nabcdefg,1,1;", 12);

        test("who wants A (0 to 9) of a morning");
        run("town n,0,1;", "person 0 1 = 0", "person 0 6 = 0");
        run("town n,9,1;", "person 0 1 = 9", "person 0 6 = 9");
        faults(0, "n,10,1;", "n,99,1;", "n,-1,1;");

        test("has C (0 to 99) coins");
        run("town n,1,0;", "person 0 2 = 0");
        run("town n,1,99;", "person 0 2 = 99");
        faults(0, "n,1,100;", "n,1,990;", "n,1,-1;");

        test("8 at most, 0, 1, ..");
        run("town n,1,1;", "count 0 = 1", "person 0 0 = 0", "person 1 0 ! BAD");
        run("town " + "n,1,1;".repeat(7) + "nb,1,1; = 8", "count 0 = 8", "letter 7 0 = 1", "letter 0 0 = NONE",
            "person 8 0 ! BAD");
        fault("n,1,1;".repeat(9), 48);
        fault("n,1,1;".repeat(8) + "g5;n,1,1;", 51);
        fault("n,1,1;".repeat(8) + "g5;n,1,1;n,1,1;", 51);
        noFault("n,1,1;".repeat(8) + "g5;w5;");
    }

    static void numbers() {
        test("there are G (0 to 99) goods each morning (20 without; the last one)");
        run("town n,9,0;g0;", "count 1 = 0", "person 0 6 = 0");
        run("town n,9,0;g99;", "count 1 = 99", "person 0 6 = 9");
        faults(0, "g100;", "g999;", "g-1;");
        fault("g99;n,1,1;g100;", 10);
        run("town n,9,0;", "count 1 = 20");
        run("town g5;n,9,0;g7;", "count 1 = 7");
        run("town g7;g5;n,9,0;", "count 1 = 5");
        run("town n,9,0;g5;", "wipe", "town n,9,0;", "count 1 = 20");

        test("one weds within W (0 to 25) LETTERS (3 without; the last one)");
        run("town na,0,0;na,0,0;nb,0,0;w0;", "count 2 = 0", "may 0 1 = 1", "may 0 2 = 0");
        run("town na,0,0;nz,0,0;w25;", "count 2 = 25", "may 0 1 = 1");
        run("town na,0,0;nz,0,0;w24;", "count 2 = 24", "may 0 1 = 0");
        faults(0, "w26;", "w99;", "w-1;");
        fault("w25;n,1,1;w26;", 10);
        run("town na,0,0;nd,0,0;ne,0,0;", "count 2 = 3", "may 0 1 = 1", "may 0 2 = 0");
        run("town w5;n,9,0;w7;", "count 2 = 7");
        run("town w7;w5;n,9,0;", "count 2 = 5");
        run("town n,9,0;w5;", "wipe", "town n,9,0;", "count 2 = 3");

        test("a LETTER costs C (0 to 9) coins (1 without; the last one)");
        run("town nab,0,0;c0;", "count 3 = 0", "price 0 = 0");
        run("town nab,0,0;c9;", "count 3 = 9", "price 0 = 18");
        faults(0, "c10;", "c99;", "c-1;");
        fault("c9;n,1,1;c10;", 9);
        run("town nab,0,0;", "count 3 = 1", "price 0 = 2");
        run("town c5;n,9,0;c7;", "count 3 = 7");
        run("town c7;c5;n,9,0;", "count 3 = 5");
        run("town n,9,0;c5;", "wipe", "town n,9,0;", "count 3 = 1");
    }

    static void letters() {
        test("these LETTERS (1 to 6, no two alike) come first in THE ALPHABET, as told; the others behind them as usual"
            + " (all as usual without; the last one)");
        run("town n,1,1;oz;", "alphabet 25 0 = 0", "alphabet 0 0 = 1", "alphabet 24 0 = 25", "alphabet 0 1 = 25",
            "alphabet 1 1 = 0", "alphabet 25 1 = 24");
        run("town n,1,1;ozfedca;", "alphabet 25 0 = 0", "alphabet 5 0 = 1", "alphabet 4 0 = 2", "alphabet 3 0 = 3",
            "alphabet 2 0 = 4", "alphabet 0 0 = 5", "alphabet 1 0 = 6", "alphabet 6 0 = 7", "alphabet 24 0 = 25");
        faults(0, "o;", "oabcdefg;", "oaa;", "ozyz;", "oabcdea;", "oabcdff;");
        fault("n,1,1;oab;oaa;", 10);
        for (int x = 0; x < 26; x++) {
            run("town n,1,1;", "alphabet " + x + " 0 = " + x, "alphabet " + x + " 1 = " + x);
            run("town n,1,1;oabcdef;", "alphabet " + x + " 0 = " + x, "alphabet " + x + " 1 = " + x);
        }
        run("town n,1,1;ozy;ob;", "alphabet 1 0 = 0", "alphabet 0 0 = 1", "alphabet 2 0 = 2", "alphabet 24 0 = 24",
            "alphabet 25 0 = 25");
        run("town n,1,1;oz;", "wipe", "town n,1,1;", "alphabet 25 0 = 25");

        test("these LETTERS (1 to 6) are VOWELS (aeiou without; the last one)");
        for (int x = 0; x < 26; x++) {
            char c = (char) ('a' + x);
            run("town n,1,1;", "alphabet " + x + " 2 = " + ("aeiou".indexOf(c) >= 0 ? 1 : 0));
            run("town n,1,1;vz;", "alphabet " + x + " 2 = " + (c == 'z' ? 1 : 0));
            run("town n,1,1;vabcdez;", "alphabet " + x + " 2 = " + ("abcdez".indexOf(c) >= 0 ? 1 : 0));
            run("town n,1,1;vzzzzzz;", "alphabet " + x + " 2 = " + (c == 'z' ? 1 : 0));
            run("town n,1,1;vzy;vbc;", "alphabet " + x + " 2 = " + ("bc".indexOf(c) >= 0 ? 1 : 0));
        }
        faults(0, "v;", "vabcdefg;", "vaaaaaaa;");
        run("town n,1,1;vz;", "wipe", "town n,1,1;", "alphabet 25 2 = 0", "alphabet 20 2 = 1");

        test("the LETTERS X and Y QUARREL (alike, too); 6 at most");
        run("town n,1,1;qaz;", "quarrel 0 25 = 1", "quarrel 25 0 = 1", "quarrel 0 0 = 0", "quarrel 25 25 = 0",
            "quarrel 0 24 = 0", "quarrel 1 25 = 0");
        run("town n,1,1;qzz;", "quarrel 25 25 = 1", "quarrel 25 24 = 0");
        run("town n,1,1;qaa;", "quarrel 0 0 = 1", "quarrel 0 1 = 0", "quarrel 1 1 = 0");
        faults(0, "q;", "qa;", "qabc;");
        run("town n,1,1;qab;qcd;qef;qgh;qij;qkl;", "quarrel 0 1 = 1", "quarrel 2 3 = 1", "quarrel 4 5 = 1",
            "quarrel 6 7 = 1", "quarrel 8 9 = 1", "quarrel 11 10 = 1", "quarrel 1 2 = 0");
        fault("n,1,1;qab;qcd;qef;qgh;qij;qkl;qmn;", 30);
        fault("qab;".repeat(7), 24);
        run("text " + "qab;".repeat(7), "fault = 24", "fault = 24", "wipe", "town n,1,1;" + "qab;".repeat(6) + " = 1");
        run("town n,1,1;qab;", "wipe", "town n,1,1;", "quarrel 0 1 = 0");
    }

    static void laid() {
        test("FAULT: the place of the first letter of the first ITEM that is not so.");
        faults(0, "x", "g100;w26;", "nab,1,1");
        fault("nab,1,1;g100;c10;", 8);
        fault("g1;w26;n,1,1;", 3);
        run("text " + NEARLY_FULL + "c1;x = 200", "fault = 199", "lay ! NO");
        run("text n,1,1", "fault = 0", "write 59", "fault = NONE", "write 59", "fault = 6");
        run("text x", "fault = 0", "wipe", "fault = NONE");

        test("LAID is a TEXT without FAULT, of a PERSON at least (NO else; at first"
            + " nadam,5,9;nquinn,9,5;nzoe,8,30;n,3,0;qaq;)");
        run("lay ! NO", "count 0 = 4");
        run("text g5;w1;oz;vz;qab;c2;", "fault = NONE", "lay ! NO", "count 1 = 20");
        run("text g5;n,1,1;", "lay = 1", "count 1 = 5");
        run("town nab,1,2;nb,1,1;", "text x", "lay ! NO", "person 0 2 = 2");
        String[][] first = {{"4", "5", "9"}, {"5", "9", "5"}, {"3", "8", "30"}, {"0", "3", "0"}};
        for (int i = 0; i < 4; i++) {
            for (int what = 0; what < 3; what++) {
                run("person " + i + " " + what + " = " + first[i][what]);
            }
            run("person " + i + " 3 ! NONE", "person " + i + " 4 = 0");
        }
        String[] names = {"adam", "quinn", "zoe", ""};
        for (int i = 0; i < 4; i++) {
            for (int k = 0; k < 6; k++) {
                run("letter " + i + " " + k + " = " + (k < names[i].length() ? names[i].charAt(k) - 'a' : NONE));
            }
        }
        for (int x = 0; x < 26; x++) {
            run("quarrel 0 " + x + " = " + (x == 16 ? 1 : 0), "quarrel " + x + " 16 = " + (x == 0 ? 1 : 0));
        }

        run(LAST, "1x keep & word z & rename 7 & wed 0 7 & lend 7 6 1 & lend 6 7 2 & swap 24 25 & enter 25 9 & lay ! 8");
        run(LAST, "1x wipe & text nz,1,1;g1;w1;c2;oz;vz;qzz;qaz; & lay & " + LAST + " ! 8");

        test("LETTERS are told by numbers else: a 0, .. z 25.");
        run("town naz,0,9;", "letter 0 0 = 0", "letter 0 1 = 25", "spell 0 = 1", "spell 25 = 2", "price 0 = 0",
            "spell -1 ! BAD", "spell 26 ! BAD");

        test("RANK of a LETTER: how many come ahead of it in THE ALPHABET.");
        run("alphabet 0 0 = 0", "alphabet 25 0 = 25", "swap 0 25 = 25", "alphabet 0 0 = 25", "alphabet 25 0 = 0",
            "alphabet 1 0 = 1");
    }

    // ---- 2: who comes ahead, what each can do

    static void ahead() {
        test("A PERSON comes AHEAD of another one, if its NAME is ahead by THE ALPHABET, LETTER by LETTER");
        run("town naaaaab,1,1;naaaaaa,1,1;", "person 0 5 = 1", "person 1 5 = 0");
        run("town naaaaab,1,1;naaaaaa,1,1;oba;", "person 0 5 = 0", "person 1 5 = 1");
        run("town nba,1,1;nazzzzz,1,1;", "person 0 5 = 1", "person 1 5 = 0");
        run("town nz,1,1;na,1,1;oz;", "person 0 5 = 0", "person 1 5 = 1");
        run("town nazb,1,1;naza,1,1;nay,1,1;", "person 0 5 = 2", "person 1 5 = 1", "person 2 5 = 0");
        for (int place = 0; place < 6; place++) {
            StringBuilder later = new StringBuilder("mmmmmm");
            later.setCharAt(place, 'n');
            StringBuilder sooner = new StringBuilder("mmmmmm");
            sooner.setCharAt(place, 'l');
            run("town n" + later + ",1,1;nmmmmmm,1,1;n" + sooner + ",1,1;", "person 0 5 = 2", "person 1 5 = 1",
                "person 2 5 = 0");
        }

        test("a NAME that is the beginning of another one ahead of that");
        run("town nabcdef,1,1;nabcde,1,1;nab,1,1;na,1,1;", "person 0 5 = 3", "person 1 5 = 2", "person 2 5 = 1",
            "person 3 5 = 0");
        run("town naaaaaa,1,1;naaaaa,1,1;", "person 0 5 = 1", "person 1 5 = 0");
        run("town nba,1,1;nb,1,1;oab;", "person 0 5 = 1", "person 1 5 = 0");

        test("alike ones by number");
        for (int i = 0; i < 8; i++) {
            run("town " + "nzzzzzz,1,1;".repeat(8), "person " + i + " 5 = " + i);
        }

        test("NAMELESS ones come last, by number.");
        run("town n,1,1;nzzzzzz,1,1;n,1,1;na,1,1;", "person 0 5 = 2", "person 1 5 = 1", "person 2 5 = 3",
            "person 3 5 = 0");
        for (int i = 0; i < 8; i++) {
            run("town " + "n,1,1;".repeat(8), "person " + i + " 5 = " + i);
        }
        run("town nb,1,1;na,1,1;", "word", "rename 1 = 0", "person 1 5 = 1", "rename 0 = 0", "person 0 5 = 0");
    }

    static void mornings() {
        test("one behind the other each GETS what he wants, or what is left.");
        String four = "town na,9,0;nb,8,0;nc,1,0;nd,0,0;g";
        int[][] gets = {{0, 0, 0, 0, 0}, {1, 1, 0, 0, 0}, {8, 8, 0, 0, 0}, {9, 9, 0, 0, 0}, {10, 9, 1, 0, 0},
            {16, 9, 7, 0, 0}, {17, 9, 8, 0, 0}, {18, 9, 8, 1, 0}, {19, 9, 8, 1, 0}, {99, 9, 8, 1, 0}};
        for (int[] g : gets) {
            run(four + g[0] + ";", "person 0 6 = " + g[1], "person 1 6 = " + g[2], "person 2 6 = " + g[3],
                "person 3 6 = " + g[4]);
        }
        String eight = "na,9,0;".repeat(8);
        run("town " + eight + "g72;", "person 7 6 = 9", "count 10 = 8");
        run("town " + eight + "g71;", "person 7 6 = 8", "count 10 = 7");
        run("town " + eight + "g63;", "person 7 6 = 0", "person 6 6 = 9", "count 10 = 7");

        test("OFFICE hold those whose first LETTER is a VOWEL, and NAMELESS ones.");
        run("town nab,1,1;nba,1,1;n,1,1;nu,1,1;nz,1,1;", "person 0 7 = 1", "person 1 7 = 0", "person 2 7 = 1",
            "person 3 7 = 1", "person 4 7 = 0");
        run("town nab,1,1;nba,1,1;n,1,1;vb;", "person 0 7 = 0", "person 1 7 = 1", "person 2 7 = 1");
        run("town nb,1,1;", "word", "rename 0", "person 0 7 = 1");
    }

    static void names() {
        test("THE WORD is 0 to 6 LETTERS that are spelt.");
        run("count 4 = 0", "word abcdef", "count 4 = 6", "spell 0 ! OVER", "unspell = 6", "count 4 = 0");
        run("town nabcdef,0,9;n,0,9;", "price 1 = 0", "rename 0 = 3", "person 0 0 = 0", "word abcdef", "rename 1 = 3",
            "letter 1 5 = 5", "person 1 0 = 6");

        test("A PERSON can be RENAMED to THE WORD, once a YEAR");
        run("town na,1,9;nb,1,9;", "word c", "rename 0 = 8", "rename 0 ! NO", "word d", "rename 0 ! NO", "rename 1 = 8",
            "rename 1 ! NO", "newYear = 2", "rename 0 = 7", "rename 0 ! NO");
        run("town na,1,9;c0;", "word a", "rename 0 = 9", "rename 0 ! NO");

        test("at the price of as many LETTERS as the two are unlike at their places, and one is longer, times C:");
        String[] words = {"abcdef 0", "bbcdef 1", "abcdeg 1", "abxdef 1", "abcde 1", "a 5", "b 6", "bcdef 6", "fedcba 6",
            "xbcdex 2", "bcdefa 6", "abc 3", "xbc 4"};
        for (String w : words) {
            String[] part = w.split(" ");
            int unlike = Integer.parseInt(part[1]);
            for (int c : new int[] {0, 1, 9}) {
                run("town nabcdef,1,1;c" + c + ";", "word " + part[0], "price 0 = " + unlike * c);
                run("town n" + part[0] + ",1,1;c" + c + ";", "word abcdef", "price 0 = " + unlike * c);
            }
        }
        run("town nabcdef,1,1;n,1,1;c9;", "price 0 = 54", "price 1 = 0", "word abcdef", "price 0 = 0", "price 1 = 54");

        test("if it has so many coins.");
        run("town nabcdef,1,54;c9;", "rename 0 = 0", "person 0 2 = 0");
        run("town nabcdef,1,53;c9;", "rename 0 ! NO");
        run("town na,1,0;c0;", "rename 0 = 0");
        run("town na,1,0;c1;", "rename 0 ! NO", "word b", "rename 0 ! NO", "word a", "rename 0 = 0");
        run("town n,1,0;c9;", "rename 0 = 0", "person 0 4 = 1");
    }

    static void weddings() {
        test("Two MAY WED, if neither is wed, and RANKS of their first LETTERS are no more than W apart and do not QUARREL");
        run("town naz,0,0;nda,0,0;nea,0,0;", "may 0 1 = 1", "may 1 0 = 1", "may 0 2 = 0", "may 2 0 = 0", "may 1 2 = 1");
        run("town na,0,0;nz,0,0;ny,0,0;w1;oz;", "may 0 1 = 1", "may 1 2 = 0", "may 1 0 = 1");
        run("town na,0,0;nz,0,0;nz,0,0;w25;qaz;qzz;", "may 0 1 = 0", "may 1 0 = 0", "may 1 2 = 0");
        run("town na,0,0;na,0,0;na,0,0;w0;", "may 0 1 = 1", "wed 0 1 = 2", "may 0 1 = 0", "may 0 2 = 0", "may 2 0 = 0",
            "may 2 1 = 0", "wed 2 1 ! NO", "wed 1 2 ! NO", "wed 0 1 ! NO", "undo", "may 2 1 = 1");

        test("a NAMELESS one with whomever that is not wed.");
        run("town n,0,0;nz,0,0;n,0,0;na,0,0;w0;qzz;qaa;qaz;", "may 0 1 = 1", "may 1 0 = 1", "may 0 2 = 1", "may 0 3 = 1",
            "may 1 3 = 0", "wed 0 1 = 2", "may 2 1 = 0", "may 2 0 = 0", "may 0 3 = 0", "wed 2 1 ! NO", "wed 2 0 ! NO",
            "wed 0 3 ! NO", "wed 2 3 = 4");
    }

    static void loans() {
        test("One can LEND coins that he has to another one whose first LETTER is of a higher RANK");
        run("town na,0,5;nb,0,0;", "lend 0 1 6 ! NO", "lend 0 1 5 = 5", "person 0 2 = 0", "person 1 2 = 5",
            "lend 0 1 1 ! NO");
        run("town naz,0,9;naa,0,9;nb,0,9;nz,0,9;", "lend 0 1 1 ! NO", "lend 1 0 1 ! NO", "lend 0 2 1 = 1",
            "lend 2 0 1 ! NO", "lend 0 3 1 = 1", "lend 3 0 1 ! NO", "lend 2 3 1 = 1");
        run("town na,0,9;nz,0,9;oz;", "lend 0 1 1 ! NO", "lend 1 0 1 = 1");

        test("(a NAMELESS one to all, all to a NAMELESS one)");
        run("town n,0,9;na,0,9;nz,0,9;n,0,9;", "lend 0 1 1 = 1", "lend 0 2 1 = 1", "lend 0 3 1 = 1", "lend 1 0 1 = 1",
            "lend 2 0 1 = 1", "lend 3 0 1 = 1", "lend 2 1 1 ! NO");

        test("that one owes him so much more, 999 at most");
        run("town n,0,99;n,0,99;n,0,99;", "10x lend 0 1 99 & lend 1 0 99", "owed 0 1 = 990", "owed 1 0 = 990",
            "lend 0 1 10 ! NO", "lend 0 1 9 = 999", "lend 0 1 1 ! NO", "lend 0 1 99 ! NO", "lend 1 0 9 = 999",
            "lend 1 0 1 ! NO", "lend 0 2 1 = 1", "repay 0 1 1 = 998", "lend 0 1 2 ! NO", "lend 0 1 1 = 999");

        test("can be REPAID by him what he is owed, if that one has so much.");
        run("town na,0,9;nb,0,9;", "lend 0 1 5", "repay 0 1 6 ! NO", "repay 0 1 5 = 0", "repay 0 1 1 ! NO",
            "person 0 2 = 9", "person 1 2 = 9");
        run("town na,0,9;nb,0,0;nc,0,0;", "lend 0 1 9", "lend 1 2 4", "repay 0 1 6 ! NO", "repay 0 1 5 = 4",
            "repay 0 1 1 ! NO", "person 1 2 = 0");
        run("town na,0,9;nb,0,9;", "lend 0 1 5", "repay 1 0 1 ! NO");
    }

    static void changes() {
        test("Two LETTERS of THE ALPHABET can change places.");
        run("swap 0 25 = 25", "alphabet 25 0 = 0", "alphabet 0 1 = 25", "alphabet 25 1 = 0", "alphabet 1 0 = 1",
            "alphabet 24 0 = 24", "swap 0 25 = 0", "alphabet 25 0 = 25");
        run("town n,1,1;ozyxwvu;", "swap 25 0 = 6", "alphabet 0 0 = 0", "alphabet 24 0 = 1", "alphabet 1 0 = 7");

        test("A new YEAR: all can be RENAMED again.");
        run("town " + "na,1,1;".repeat(8) + "c0;", "newYear = 0", "rename 0", "rename 1", "rename 2", "rename 3",
            "rename 4", "rename 5", "rename 6", "rename 7", "rename 7 ! NO", "newYear = 8", "newYear = 0", "person 0 4 = 0",
            "person 7 4 = 0", "rename 0 = 1", "rename 7 = 1");

        test("UNDONE is the latest of rename(), wed(), lend(), repay(), swap(), newYear() (the last 8 can be);"
            + " THE WORD stays.");
        String town = "town na,1,9;nb,1,9;";
        run(town, "undo ! NO", "word b", "rename 0 = 8", "undo = 0", "letter 0 0 = 0", "person 0 2 = 9", "person 0 4 = 0",
            "count 4 = 1", "rename 0 = 8", "letter 0 0 = 1");
        run(town, "wed 0 1", "undo = 0", "person 0 3 = NONE", "person 1 3 = NONE", "count 5 = 0");
        run(town, "lend 0 1 9", "undo = 0", "owed 0 1 = 0", "person 0 2 = 9", "person 1 2 = 9");
        run(town, "lend 0 1 9", "repay 0 1 9", "undo = 1", "owed 0 1 = 9", "person 0 2 = 0", "person 1 2 = 18");
        run(town, "swap 0 1", "undo = 0", "alphabet 0 0 = 0", "alphabet 0 1 = 0", "alphabet 1 1 = 1");
        run(town, "word a", "rename 0", "newYear = 1", "undo = 1", "person 0 4 = 1", "rename 0 ! NO");
        run(town, "newYear = 0", "count 7 = 1", "undo = 0", "undo ! NO");
        run(town, "8x lend 0 1 1", "count 7 = 8", "8x undo = 0", "owed 0 1 = 0", "undo ! NO");
        run(town, "9x lend 0 1 1", "count 7 = 8", "undo = 7", "owed 0 1 = 8", "7x undo = 0", "owed 0 1 = 1", "undo ! NO");
        run("town na,1,99;nb,1,9;", "40x lend 0 1 1", "count 7 = 8", "8x undo = 0", "owed 0 1 = 32", "undo ! NO",
            "3x lend 0 1 1", "count 7 = 3", "undo = 2", "owed 0 1 = 34");
        run(town, "word ab", "unspell", "enter 0 1", "close", "keep", "write 65", "wipe", "spell 3", "enter 1 1",
            "count 7 = 0", "undo ! NO", "swap 0 1", "word abc", "undo = 0", "count 4 = 3", "count 6 = 1", "count 8 = 1");
        // Behind a call and its undoing all is as ahead of it, of the last PERSON and the last LETTER, too.
        run(LAST, "word zyxwvu", "1x rename 7 & undo ! 0", "1x rename 0 & undo ! 0", "1x wed 0 7 & undo ! 0",
            "1x wed 7 0 & undo ! 0", "1x lend 0 7 9 & undo ! 0", "1x lend 7 0 9 & undo ! 0", "lend 6 7 9",
            "1x repay 6 7 9 & undo ! 1", "1x swap 24 25 & undo ! 1", "rename 7", "1x newYear & undo ! 2");
    }

    // ---- 3: names, weddings

    static void bestLetters() {
        test("CHANGE for a PERSON who is not NAMELESS: of all LETTERS, in place of the first one of his NAME, that by which"
            + " what he GETS, less C (less nothing, if it is that one itself), is greatest, of several that of the lowest"
            + " RANK");
        run("town nb,5,0;na,5,0;g5;c4;", "change 0 0 = 0", "change 0 1 = 101", "change 1 0 = 0", "change 1 1 = 105");
        run("town nb,5,0;na,5,0;g5;c5;", "change 0 0 = 0", "change 0 1 = 100");
        run("town nb,5,0;na,5,0;g5;c6;", "change 0 0 = 1", "change 0 1 = 100");
        run("town nz,9,0;c0;", "change 0 0 = 0", "change 0 1 = 109");
        run("town nz,9,0;c0;oq;", "change 0 0 = 16");
        run("town nz,9,0;c1;", "change 0 0 = 25", "change 0 1 = 109");
        run("town na,9,0;nz,9,0;g9;c0;oz;", "change 0 0 = 25", "change 0 1 = 109", "change 1 0 = 25", "change 1 1 = 109");
        run("town naz,9,0;nab,9,0;g9;c0;", "change 0 0 = 0", "change 0 1 = 100");
        run("town nz,0,0;c0;", "change 0 0 = 0", "change 0 1 = 100");
        run("town nz,9,0;c0;g0;", "change 0 0 = 0", "change 0 1 = 100");
        run("town nz,9,0;c1;g0;", "change 0 0 = 25", "change 0 1 = 100");
        run("town n,9,0;nz,5,0;", "change 0 0 ! NO", "change 0 1 ! NO", "change 1 0 = 25");

        test("whether he can be RENAMED so or not: it; as much and 100.");
        run("town nb,9,0;na,9,0;g9;c1;", "change 0 0 = 0", "change 0 1 = 108", "rename 0 ! NO");
        run("town nb,9,9;na,9,0;g9;c1;", "word b", "rename 0 = 9", "rename 0 ! NO", "change 0 0 = 0", "change 0 1 = 108");

        test("behind how many rounds (0 to 20) a round first changes nothing; none; the first LETTER of a PERSON behind as"
            + " many (behind 20, if none).");
        run("town na,7,0;g0;c3;n,1,1;", "run -1 = 0", "run 0 = 0", "run 1 ! NONE");
        run("town n,7,0;n,7,0;", "run -1 = 0");
        run("town nb,4,0;c0;", "run -1 = 1", "run 0 = 0", "letter 0 0 = 1");
        run("town nb,4,0;c1;", "run -1 = 0", "run 0 = 1");
        // Each can only go to the LETTER of RANK 0, and stays there: 8 PERSONS need 8 rounds at most.
        String slow = "town nb,5,0;nb,4,0;nb,9,0;nd,5,0;nd,7,0;nd,4,0;nd,7,0;ne,7,0;g45;c3;";
        run(slow, "run -1 = 8", "run 0 = 0", "run 1 = 0", "run 7 = 0", "run 8 ! BAD");
    }

    static void rights() {
        test("RIGHTS (bits): 1 OFFICE, 2 to come AHEAD of PERSON j, 4 RANK within W of the first LETTER of PERSON k and no"
            + " QUARREL with it.");
        String town = "town nm,1,1;nd,1,1;nz,1,1;nb,1,1;vez;";
        run(town, "shortest 0 0 1 2 1 = 0", "shortest 0 1 1 2 1 = 4", "shortest 0 2 1 2 1 = 0", "shortest 0 4 1 2 1 = 22",
            "shortest 0 3 1 2 0 ! NONE", "shortest 0 3 2 1 1 = 4", "shortest 0 5 1 2 1 = 25", "shortest 0 6 2 1 1 = 0",
            "shortest 0 6 1 2 0 ! NONE", "shortest 0 7 2 1 1 = 4", "shortest 0 7 1 2 0 ! NONE");
        run("town nm,1,1;nm,1,1;w0;", "shortest 0 4 1 1 1 = 12");
        run("town nm,1,1;nm,1,1;w0;qmm;", "shortest 0 4 1 1 1 ! NONE");
        run("town nm,1,1;nm,1,1;w3;", "shortest 0 4 1 1 1 = 9");
        run("town nm,1,1;nm,1,1;w3;qjm;qmk;", "shortest 0 4 1 1 1 = 11");
        run("town nm,1,1;nm,1,1;w12;", "shortest 0 4 1 1 1 = 0");
        run("town nm,1,1;nm,1,1;w11;", "shortest 0 4 1 1 1 = 1");
        run("town nm,1,1;nz,1,1;w25;", "shortest 0 4 1 1 1 = 0");
        run("town nm,1,1;na,1,1;w0;ozy;", "shortest 0 4 1 1 1 = 0");
        run("town nm,1,1;na,1,1;w2;ozy;", "shortest 0 4 1 1 1 = 25");
        run("town nm,1,1;na,1,1;w1;vc;", "shortest 0 5 1 1 0 ! NONE");
        run("town nm,1,1;na,1,1;w2;vc;", "shortest 0 5 1 1 1 = 2");

        test("SHORTEST: of NAMES of 1 to 3 LETTERS by which PERSON i would have all told RIGHTS, that of fewest LETTERS, of"
            + " several the one ahead by THE ALPHABET: how long it is; its LETTERS; none.");
        run("town nm,1,1;naa,1,1;", "shortest 0 2 1 1 0 = 1", "shortest 0 2 1 1 1 = 0", "shortest 0 2 1 1 2 ! NONE",
            "shortest 0 2 1 1 3 ! NONE", "letter 0 0 = 12");
        run("town naaa,1,1;nm,1,1;naab,1,1;", "shortest 1 2 0 0 0 = 1", "shortest 1 2 0 0 1 = 0");
        run("town na,1,1;nm,1,1;", "shortest 1 2 0 0 0 ! NONE", "shortest 1 2 0 0 1 ! NONE", "shortest 1 2 0 0 2 ! NONE",
            "shortest 1 2 0 0 3 ! NONE");
        run("town nm,1,1;na,1,1;", "shortest 0 2 1 0 1 = 0");
        run("town nb,1,1;nm,1,1;", "shortest 1 2 0 0 1 = 0");
        run("town nm,1,1;nb,1,1;oz;", "shortest 0 0 0 0 1 = 25", "shortest 0 2 1 0 1 = 25");

        test("(Nobody comes AHEAD of himself; a NAMELESS k is right by any NAME; the others, and j, k, if they are i, have"
            + " their NAMES as they are.)");
        run("town nm,1,1;n,1,1;w0;", "shortest 0 2 0 0 0 ! NONE", "shortest 1 2 1 0 0 ! NONE", "shortest 0 7 0 1 0 ! NONE",
            "shortest 0 4 0 1 1 = 0", "shortest 0 4 0 0 1 = 12", "shortest 1 4 0 1 1 = 0", "shortest 1 4 0 0 1 = 12",
            "shortest 0 2 1 0 1 = 0", "shortest 1 2 0 0 1 = 0", "shortest 0 7 1 1 1 = 0");
    }

    static void matches() {
        test("each of two who MAY WED now, no PERSON in two of them, that of most, of several the first (by whom PERSON 0"
            + " weds, nobody last, then 1, ..): how many; whom a PERSON weds; none.");
        run("town na,0,0;", "match -1 = 0", "match 0 ! NONE");
        run("town na,0,0;nz,0,0;w24;", "match -1 = 0", "match 0 ! NONE", "match 1 ! NONE");
        run("town na,0,0;na,0,0;na,0,0;", "match -1 = 1", "match 0 = 1", "match 1 = 0", "match 2 ! NONE");
        String eight = "town " + "na,0,0;".repeat(8);
        run(eight, "match -1 = 4", "match 0 = 1", "match 6 = 7", "match 7 = 6", "count 5 = 0", "wed 0 7", "match -1 = 3",
            "match 0 ! NONE", "match 1 = 2", "match 5 = 6", "match 7 ! NONE", "wed 1 2", "wed 3 4", "wed 5 6",
            "match -1 = 0", "match 5 ! NONE");
        run("town nz,0,0;na,0,0;nb,0,0;nc,0,0;w1;", "match -1 = 1", "match 0 ! NONE", "match 1 = 2", "match 3 ! NONE");
        run("town nb,0,0;nc,0,0;na,0,0;nd,0,0;w1;", "match -1 = 2", "match 0 = 2", "match 1 = 3");
        run("town nb,0,0;nc,0,0;na,0,0;w1;", "match -1 = 1", "match 0 = 1", "match 2 ! NONE");
        run("town na,0,0;na,0,0;qaa;", "match -1 = 0");

        test("WIDE: the least W (0 to 25) by which MATCH would have n (1 to 4) or more; none.");
        run("town na,0,0;nz,0,0;w3;", "wide 1 = 25", "wide 2 ! NONE", "count 2 = 3", "wide 0 ! BAD", "wide 5 ! BAD");
        run("town na,0,0;nz,0,0;w3;qaz;", "wide 1 ! NONE");
        run("town na,0,0;", "wide 1 ! NONE", "wide 4 ! NONE");
        run("town " + "na,0,0;".repeat(8) + "w9;", "wide 1 = 0", "wide 2 = 0", "wide 3 = 0", "wide 4 = 0", "wide 5 ! BAD");
        run("town " + "na,0,0;".repeat(7), "wide 3 = 0", "wide 4 ! NONE");
        run("town na,0,0;nb,0,0;nd,0,0;nf,0,0;nj,0,0;nm,0,0;nt,0,0;nz,0,0;", "wide 1 = 1", "wide 2 = 2", "wide 3 = 3",
            "wide 4 = 6");
        run("town na,0,0;nz,0,0;n,0,0;n,0,0;w0;", "wide 2 = 0");
        run("town na,0,0;na,0,0;nb,0,0;", "wed 0 1", "wide 1 ! NONE", "undo", "wide 1 = 0");
    }

    // ---- 4: debts, seats, ledgers

    static void debts() {
        test("NET of a PERSON: what he is owed less what he owes.");
        String seven = "na,0,99;".repeat(7) + "nb,0,0;";
        run("town " + seven, "net 0 = 10000", "net 7 = 10000", "lend 0 7 99", "lend 1 7 99", "lend 2 7 99", "lend 3 7 99",
            "lend 4 7 99", "lend 5 7 99", "lend 6 7 99", "net 7 = 9307", "net 0 = 10099", "net 6 = 10099");
        run("town n,0,9;n,0,9;", "lend 0 1 5", "lend 1 0 5", "net 0 = 10000", "net 1 = 10000", "lend 1 0 1",
            "net 0 = 9999", "net 1 = 10001");

        test("in the longest row of PERSONS, each owing the next one something, how many debts there are (0: nobody owes"
            + " anything); none (such rows come round to one who is in them).");
        String row = "na,0,9;nb,0,9;nc,0,9;nd,0,9;ne,0,9;nf,0,9;ng,0,9;n,0,9;";
        run("town n,0,9;", "chain = 0");
        run("town " + row, "chain = 0", "lend 0 1 1", "chain = 1", "lend 1 2 1", "chain = 2", "lend 2 3 1", "lend 3 4 1",
            "lend 4 5 1", "lend 5 6 1", "chain = 6", "lend 6 7 1", "chain = 7", "lend 0 7 1", "chain = 7", "lend 7 0 1",
            "chain ! NONE", "repay 7 0 1", "chain = 7", "lend 7 6 1", "chain ! NONE", "undo", "repay 3 4 1", "chain = 3");
        run("town n,0,9;n,0,9;", "lend 0 1 1", "chain = 1", "lend 1 0 1", "chain ! NONE", "repay 0 1 1", "chain = 1",
            "repay 1 0 1", "chain = 0");
        run("town n,0,9;n,0,9;n,0,9;n,0,9;", "lend 0 1 1", "lend 1 2 1", "lend 2 0 1", "chain ! NONE", "lend 3 0 1",
            "chain ! NONE");
        run("town n,0,9;n,0,9;n,0,9;n,0,9;", "lend 3 2 1", "lend 2 1 1", "lend 1 0 1", "chain = 3");

        test("the fewest payments, each from one to another one, of whatever coins, by which all NETS come to be 0.");
        run("town n,0,9;", "payments = 0");
        run("town n,0,9;n,0,9;", "payments = 0", "lend 0 1 5", "payments = 1", "lend 1 0 5", "payments = 0");
        run("town n,0,9;n,0,9;n,0,9;", "lend 0 1 1", "lend 1 2 1", "payments = 1", "lend 2 0 1", "payments = 0",
            "lend 0 1 2", "payments = 1", "lend 0 2 1", "payments = 2");
        run("town " + seven, "lend 0 7 99", "lend 1 7 99", "lend 2 7 99", "lend 3 7 99", "lend 4 7 99", "lend 5 7 99",
            "payments = 6", "lend 6 7 99", "payments = 7");
        String half = "n,0,99;".repeat(8);
        run("town " + half, "lend 0 4 5", "lend 1 5 6", "lend 2 6 7", "lend 3 7 8", "payments = 4", "lend 0 5 1",
            "payments = 5", "lend 1 6 1", "payments = 5");
        run("town " + half, "lend 0 4 3", "lend 1 5 5", "payments = 2", "lend 0 5 2", "payments = 3", "lend 1 4 2",
            "payments = 2");
    }

    static void seats() {
        test("of all ways that by which fewest beside each other (the last one and PERSON 0, too; two are beside each other"
            + " once) QUARREL by first LETTERS (NAMELESS ones never)");
        run("town na,0,0;qaa;", "seats -1 = 0", "seats -2 = 1", "seats 0 = 0", "seats 1 ! BAD");
        run("town na,0,0;na,0,0;qaa;", "seats -1 = 1", "seats -2 = 1", "seats 0 = 0", "seats 1 = 1", "seats 2 ! BAD");
        run("town na,0,0;na,0,0;na,0,0;qaa;", "seats -1 = 3", "seats -2 = 2");
        run("town nab,0,0;nba,0,0;nca,0,0;qaa;qbb;", "seats -1 = 0", "seats -2 = 2");
        run("town na,0,0;nb,0,0;nc,0,0;nd,0,0;qad;", "seats -1 = 0", "seats -2 = 2", "seats 1 = 1", "seats 2 = 3",
            "seats 3 = 2");
        run("town na,0,0;nb,0,0;nc,0,0;qac;", "seats -1 = 1", "seats -2 = 2");
        run("town n,0,0;n,0,0;n,0,0;n,0,0;qaa;", "seats -1 = 0", "seats -2 = 6");
        run("town na,0,0;n,0,0;na,0,0;n,0,0;qaa;", "seats -1 = 0", "seats -2 = 2", "seats 1 = 1", "seats 2 = 2");
        run("town na,0,9;na,0,9;na,0,9;qaa;", "seats -1 = 3", "rename 0", "seats -1 = 1", "rename 2", "seats -1 = 0",
            "2x undo", "seats -1 = 3");

        test("of several the first (by who is next, then ..): how many quarrels; who sits at place k; in how many ways there"
            + " are so few.");
        run("town " + "na,0,0;".repeat(8), "seats -1 = 0", "seats -2 = 5040", "seats 0 = 0", "seats 1 = 1", "seats 6 = 6",
            "seats 7 = 7", "seats 8 ! BAD");
        run("town " + "na,0,0;".repeat(8) + "qaa;", "seats -1 = 8", "seats -2 = 5040", "seats 7 = 7");
        run("town na,0,0;na,0,0;na,0,0;na,0,0;nb,0,0;nb,0,0;nb,0,0;nb,0,0;qaa;", "seats -1 = 0", "seats -2 = 144",
            "seats 1 = 4", "seats 2 = 1", "seats 7 = 7");
    }

    static void swaps() {
        test("FULL are those who GET all they want.");
        run("town na,9,0;nb,0,0;nc,1,0;g9;", "count 10 = 2", "swap 0 2", "count 10 = 2");
        run("town na,9,0;nb,0,0;g0;", "count 10 = 1");
        run("town na,9,0;g8;", "count 10 = 0");
        run("town na,9,0;g9;", "count 10 = 1");

        test("of all two LETTERS that first LETTERS of PERSONS are (unlike) those by whose changing places most are FULL, of"
            + " several the first (by the LETTER of lower number, then the other one): 26 times the first and the second;"
            + " how many are FULL then; none (no more than now).");
        run("town na,9,0;", "bestSwap 0 ! NONE", "bestSwap 1 ! NONE");
        run("town n,9,0;n,3,0;g9;", "bestSwap 0 ! NONE");
        run("town naz,9,0;naa,9,0;g9;", "bestSwap 0 ! NONE");
        run("town nb,9,0;nc,3,0;n,0,0;g3;", "bestSwap 0 = 28", "bestSwap 1 = 2");
        run("town nbc,9,0;nbd,3,0;n,0,0;g3;", "bestSwap 0 ! NONE");
        run("town na,9,0;nz,3,0;n,3,0;g6;", "bestSwap 0 = 25", "bestSwap 1 = 1");
        run("town ny,9,0;nz,3,0;g6;", "bestSwap 0 = 649", "bestSwap 1 = 1", "alphabet 24 0 = 24");
        run("town nz,9,0;na,3,0;g6;oz;", "bestSwap 0 = 25");
        run("town na,9,0;nb,3,0;g9;", "count 10 = 1", "bestSwap 0 ! NONE", "bestSwap 1 ! NONE");
        run("town na,9,0;nb,3,0;nc,3,0;g9;", "count 10 = 1", "bestSwap 0 = 2", "bestSwap 1 = 2");
        run("town na,9,0;nb,9,0;nc,3,0;nd,3,0;g8;", "bestSwap 0 = 2", "bestSwap 1 = 1");
        run("town na,0,0;nb,9,0;nc,3,0;g3;", "bestSwap 0 = 2", "bestSwap 1 = 2");
        run("town nc,9,0;nb,3,0;na,3,0;g3;ocba;", "bestSwap 0 = 2", "bestSwap 1 = 1");
    }

    static void ledgers() {
        test("THE LEDGER is of rows (8 at most): a LETTER, and how much (0 to 9).");
        run("count 6 = 0", "8x enter 25 9 = 8", "count 6 = 8", "enter 0 0 ! OVER", "close = 8", "enter 0 0 = 1");
        run("enter 0 -1 ! BAD", "enter 0 10 ! BAD", "enter 0 0 = 1", "enter 25 9 = 2");

        test("A row can be of a PERSON whose first LETTER that is, who GETS just so much.");
        run("town na,5,0;nbz,9,0;g9;", "enter 1 4", "fits = 1", "sure 0 = 1", "close", "enter 1 3", "fits = 0", "close",
            "enter 1 5", "fits = 0", "close", "enter 25 4", "fits = 0", "close", "enter 1 9", "fits = 0");
        run("town na,9,0;nz,0,0;g0;", "enter 0 0", "enter 25 0", "fits = 1");
        run("town n,5,0;", "enter 0 5", "fits = 0", "sure 0 ! NONE");

        test("in how many ways all rows can be of PERSONS, no two of one;");
        run("fits = 1");
        String eight = "town " + "na,9,0;".repeat(8) + "g72;";
        run(eight, "enter 0 9", "fits = 8", "enter 0 9", "fits = 56", "6x enter 0 9", "fits = 40320", "enter 25 0 ! OVER",
            "fits = 40320");
        run("town na,9,0;", "enter 0 9", "fits = 1", "enter 0 9", "fits = 0");

        test("the PERSON of whom it is in each of these ways; none (no way, too).");
        run("town na,9,0;na,9,0;nb,9,0;g27;", "enter 0 9", "sure 0 ! NONE", "enter 1 9", "sure 1 = 2", "sure 0 ! NONE",
            "enter 0 9", "sure 2 ! NONE", "sure 1 = 2", "enter 1 9", "fits = 0", "sure 1 ! NONE");
        run(eight, "8x enter 0 9", "sure 0 ! NONE", "sure 7 ! NONE", "sure 8 ! BAD");
    }

    /** The first LETTER that the document gives PERSON i by z. */
    static int drawn(int z, int i) {
        java.math.BigInteger x = java.math.BigInteger.valueOf(7919L * z + 6151L * i + 1);
        return x.multiply(x).mod(java.math.BigInteger.valueOf(65521)).intValue() % 26;
    }

    static void yearsAndKept() {
        test("A YEAR by z (0 to 9999): PERSON i, if not NAMELESS, has the first LETTER ((x times x) modulo 65521) modulo 26,"
            + " x being 7919 z, 6151 i and 1 together: how many are FULL; how many hold OFFICE.");
        for (int z : new int[] {0, 1, 5000, 9998, 9999}) {
            for (int i : new int[] {0, 1, 6, 7}) {
                int x = drawn(z, i);
                String town = "town " + "n,0,0;".repeat(i) + "nbc,0,0;ozyxwba;v" + (char) ('a' + x) + ";";
                String other = "town " + "n,0,0;".repeat(i) + "nbc,0,0;v" + (char) ('a' + (x + 1) % 26) + ";";
                run(town, "year " + z + " 1 = " + (i + 1), "letter " + i + " 0 = 1");
                run(other, "year " + z + " 1 = " + i);
                int y = drawn(z, 0);
                if (i > 0 && x != y) {
                    // There is 1 of the goods: FULL is he who wants just that, if he comes first.
                    run("town nb,9,0;" + "n,0,0;".repeat(i - 1) + "nb,1,0;g1;", "year " + z + " 0 = "
                        + (x < y ? i : i - 1));
                }
            }
        }
        run("year -1 0 ! BAD", "year 10000 0 ! BAD", "year -1 1 ! BAD", "year 10000 1 ! BAD");
        run("town n,9,0;n,9,0;g9;", "year 9999 0 = 1", "year 9999 1 = 2");

        test("KEPT is the town as it is, but THE WORD and THE LEDGER: 2 at most.");
        run("town na,1,9;nb,1,9;", "word ab", "enter 0 1", "keep = 1", "lend 0 1 5", "keep = 2", "keep ! OVER", "wed 0 1",
            "word c", "2x enter 1 1", "rename 0", "swap 0 1", "back = 1", "count 4 = 1", "count 6 = 3", "owed 0 1 = 5",
            "person 0 3 = NONE", "letter 0 0 = 0", "person 0 4 = 0", "alphabet 0 0 = 0", "back = 0", "owed 0 1 = 0",
            "person 0 2 = 9", "count 4 = 1", "count 6 = 3", "back ! NO");
        run(LAST, "word zyxwvu", "enter 0 1", "1x keep & rename 7 & back ! 0", "1x keep & wed 0 7 & back ! 0",
            "1x keep & lend 0 7 9 & lend 7 0 9 & back ! 0", "1x keep & swap 24 25 & back ! 0",
            "1x keep & rename 7 & keep & newYear & wed 6 7 & back & back ! 0");
    }

    static void calls() {
        test("An object is used for at most 512 calls after it has been made");
        run("255x swap 0 25 & undo = 0", "alphabet 0 0 = 0", "alphabet 25 0 = 25");
        run("170x keep & swap 0 25 & back = 0", "count 7 = 0", "alphabet 0 0 = 0");
        run("511x newYear = 0", "count 7 = 8");
    }

    static void signs() {
        test("BAD: a number is none that is told (PERSONS, LETTERS, places: such as there are).");
        run("town na,1,9;nb,1,9;nc,1,9;", "person 2 0 = 1", "seats 2 = 2", "wipe", "town na,1,9; = 1", "person 1 0 ! BAD",
            "seats 1 ! BAD", "letter 2 0 ! BAD", "price 1 ! BAD", "net 1 ! BAD", "owed 0 1 ! BAD", "may 0 1 ! BAD");
        run("sure 0 ! BAD", "enter 0 5", "sure 0 = 0", "sure 1 ! BAD", "close", "sure 0 ! BAD");

        test("NO: not as things stand. NONE: there is none. OVER: there is no room. Of several the first;"
            + " nothing changes then.");
        run("text " + "n".repeat(200), "write 31 ! BAD", "write 127 ! BAD", "write 32 ! OVER");
        run("word abcdef", "spell 26 ! BAD", "spell -1 ! BAD", "spell 25 ! OVER");
        run("8x enter 0 0", "enter 26 0 ! BAD", "enter 0 10 ! BAD", "enter 0 0 ! OVER");
        run("town nab,1,0;n,1,0;nz,1,0;", "rename 3 ! BAD", "rename 0 ! NO", "wed 0 3 ! BAD", "wed 0 2 ! NO",
            "lend 0 0 1 ! BAD", "lend 0 2 100 ! BAD", "lend 0 3 1 ! BAD", "lend 0 2 99 ! NO", "repay 0 2 100 ! BAD",
            "repay 0 0 1 ! BAD", "repay 0 2 99 ! NO", "change 1 2 ! BAD", "change 1 -1 ! BAD", "change 1 0 ! NO");
        run("letter 3 -1 ! BAD", "letter 3 0 ! NONE", "letter 4 9 ! BAD", "bestSwap 2 ! BAD", "bestSwap 1 ! NONE",
            "wide 5 ! BAD", "wide 4 ! NONE", "run 4 ! BAD", "run 3 ! NONE", "match 4 ! BAD", "match 1 ! NONE",
            "shortest 1 2 1 0 4 ! BAD", "shortest 1 2 1 4 3 ! BAD", "shortest 1 2 1 0 3 ! NONE", "person 4 3 ! BAD",
            "person 0 3 ! NONE");
        run("3x enter 0 5", "sure 3 ! BAD", "sure 2 ! NONE");
    }

    public static void main(String[] args) {
        texts();
        persons();
        numbers();
        letters();
        laid();
        ahead();
        mornings();
        names();
        weddings();
        loans();
        changes();
        bestLetters();
        rights();
        matches();
        debts();
        seats();
        swaps();
        ledgers();
        yearsAndKept();
        calls();
        signs();
        System.exit(S.end());
    }
}
