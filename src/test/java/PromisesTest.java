/** Each promise of the document by hand: ordinary inputs, the edges that are named, wrong inputs. */
public final class PromisesTest {
    static final int BAD = -1, NO = -2, OVER = -3, NONE = -4;
    static final int LOW = Integer.MIN_VALUE, HIGH = Integer.MAX_VALUE;
    // The town of the shared tests: THE ALPHABET is q z a b c ..
    static final String SEVEN = "neve,4,20;nada,6,9;nquin,9,40;nqara,2,3;n,5,12;nzed,3,30;nbo,7,1;"
        + "g22;w2;oqz;qaq;qeb;c2;";

    static int wrong = 0;
    static int asked = 0;

    static void due(String what, int got, int want) {
        asked++;
        if (got != want) {
            wrong++;
            System.out.println(what + ": answered " + got + ", due is " + want);
        }
    }

    static void writeAll(ByInitials x, String text) {
        for (int k = 0; k < text.length(); k++) {
            x.write(text.charAt(k));
        }
    }

    static ByInitials town(String text) {
        ByInitials x = new ByInitials();
        writeAll(x, text);
        if (x.lay() < 1) {
            due("lay() of " + text, x.lay(), 1);
        }
        return x;
    }

    static void spellAll(ByInitials x, String word) {
        x.unspell();
        for (int k = 0; k < word.length(); k++) {
            x.spell(word.charAt(k) - 'a');
        }
    }

    static void dueFault(String text, int want) {
        ByInitials x = new ByInitials();
        writeAll(x, text);
        due("fault() of '" + text + "'", x.fault(), want);
        if (want != NONE) {
            due("lay() of '" + text + "'", x.lay(), NO);
            due("the first town still, behind '" + text + "'", x.person(1, 2), 5);
            due("THE TEXT still, '" + text + "'", x.count(9), text.length());
        }
    }

    // ---- towns

    static void promise1NewObject() {
        ByInitials x = new ByInitials();
        int[] counts = {4, 20, 3, 1, 0, 0, 0, 0, 0, 0, 2};
        for (int what = 0; what < counts.length; what++) {
            due("1: count(" + what + ")", x.count(what), counts[what]);
        }
        int[] sizes = {4, 5, 3, 0};
        int[] wants = {5, 9, 8, 3};
        int[] coins = {9, 5, 30, 0};
        for (int i = 0; i < 4; i++) {
            due("1: size of " + i, x.person(i, 0), sizes[i]);
            due("1: wants of " + i, x.person(i, 1), wants[i]);
            due("1: coins of " + i, x.person(i, 2), coins[i]);
        }
        due("1: quarrel a q", x.quarrel(0, 16), 1);
        due("1: undo", x.undo(), NO);
        due("1: back", x.back(), NO);
    }

    static void promise2Write() {
        ByInitials x = new ByInitials();
        due("2: 32", x.write(32), 1);
        due("2: 126", x.write(126), 2);
        due("2: 31", x.write(31), BAD);
        due("2: 127", x.write(127), BAD);
        due("2: low", x.write(LOW), BAD);
        due("2: high", x.write(HIGH), BAD);
        due("2: length still", x.count(9), 2);
        for (int k = 3; k <= 200; k++) {
            due("2: letter " + k, x.write('n'), k);
        }
        due("2: letter 201", x.write('n'), OVER);
        due("2: bad ahead of over", x.write(31), BAD);
        due("2: length at the end", x.count(9), 200);
    }

    static void promise3Wipe() {
        ByInitials x = new ByInitials();
        due("3: empty", x.wipe(), 0);
        writeAll(x, "nab");
        due("3: three", x.wipe(), 3);
        due("3: again", x.wipe(), 0);
        due("3: count", x.count(9), 0);
        due("3: the town stays", x.count(0), 4);
        due("3: write behind", x.write('n'), 1);
    }

    static void promise4Fault() {
        dueFault("", NONE);
        dueFault("nabcdef,9,99;", NONE);
        dueFault("nabcdefg,9,9;", 0);
        dueFault("n,0,0;", NONE);
        dueFault("n,09,05;", NONE);
        dueFault("n,10,0;", 0);
        dueFault("n,1,100;", 0);
        dueFault("n,001,1;", 0);
        dueFault("n,,1;", 0);
        dueFault("n,1,;", 0);
        dueFault("n,1;", 0);
        dueFault("n,1,1,1;", 0);
        dueFault("n1,1;", 0);
        dueFault("nA,1,1;", 0);
        dueFault("n a,1,1;", 0);
        dueFault("n,1,1", 0);
        dueFault("n,1,1; n,1,1;", 6);
        dueFault("n,1,1;;", 6);
        dueFault("n,1,1;x", 6);
        dueFault("n,1,1;n", 6);
        dueFault("n,-1,1;", 0);
        dueFault("g0;g99;g07;", NONE);
        dueFault("g99;g100;", 4);
        dueFault("g;", 0);
        dueFault("w0;w25;", NONE);
        dueFault("w25;w26;", 4);
        dueFault("c0;c9;c09;", NONE);
        dueFault("c9;c10;", 3);
        dueFault("oa;oabcdef;", NONE);
        dueFault("oabcdefg;", 0);
        dueFault("o;", 0);
        dueFault("oaba;", 0);
        dueFault("va;vaaaaaa;", NONE);
        dueFault("v;", 0);
        dueFault("vabcdefg;", 0);
        dueFault("qaa;qab;qba;", NONE);
        dueFault("qa;", 0);
        dueFault("qabc;", 0);
        dueFault("qa,b;", 0);
        dueFault("qab;qab;qab;qab;qab;qab;", NONE);
        dueFault("qab;qab;qab;qab;qab;qab;qab;", 24);
        dueFault("n,1,1;n,1,1;n,1,1;n,1,1;n,1,1;n,1,1;n,1,1;n,1,1;", NONE);
        dueFault("n,1,1;n,1,1;n,1,1;n,1,1;n,1,1;n,1,1;n,1,1;n,1,1;n,1,1;", 48);
        dueFault("g100;n,10,0;", 0);
        ByInitials x = new ByInitials();
        writeAll(x, "n,1,1;qab;");
        due("4: NONE", x.fault(), NONE);
        x.wipe();
        writeAll(x, "n,1,1");
        due("4: what was wiped is not read", x.fault(), 0);
        due("4: the town stays", x.count(0), 4);
        x.write(';');
        due("4: NONE now", x.fault(), NONE);
    }

    static void promise5Lay() {
        ByInitials x = new ByInitials();
        due("5: nothing told", x.lay(), NO);
        writeAll(x, "g5;");
        due("5: without a PERSON", x.fault(), NONE);
        due("5: without a PERSON", x.lay(), NO);
        x.spell(3);
        x.enter(0, 5);
        x.keep();
        x.newYear();
        x.wed(0, 3);
        due("5: goods still", x.count(1), 20);
        due("5: THE WORD still", x.count(4), 1);
        due("5: THE LEDGER still", x.count(6), 1);
        writeAll(x, "na,5,40;nb,1,2;g7;g9;w4;w6;c2;c3;ob;oc;vb;vcd;");
        spellAll(x, "a");
        x.rename(0);
        x.lend(2, 3, 9);
        due("5: two", x.lay(), 2);
        int[] counts = {2, 9, 6, 3, 0, 0, 0, 0, 0, 49, 2};
        for (int what = 0; what < counts.length; what++) {
            due("5: count(" + what + ")", x.count(what), counts[what]);
        }
        due("5: not RENAMED", x.person(0, 4), 0);
        due("5: owes nothing", x.owed(1, 0), 0);
        due("5: only the last o", x.alphabet(1, 0), 2);
        due("5: only the last o", x.alphabet(2, 0), 0);
        due("5: only the last v", x.alphabet(1, 2), 0);
        due("5: only the last v", x.alphabet(3, 2), 1);
        due("5: no undo", x.undo(), NO);
        due("5: no back", x.back(), NO);
        due("5: again", x.lay(), 2);
        writeAll(x, "nc,1,1;");
        due("5: longer", x.lay(), 3);
        due("5: what it had not had", x.person(2, 3), NONE);
        ByInitials y = town("na,1,9;nb,2,2;g5;w1;oz;vz;qab;c4;");
        y.wipe();
        writeAll(y, "nc,3,3;qde;qde;g9");
        due("5: a FAULT", y.lay(), NO);
        due("5: the town stays", y.quarrel(0, 1), 1);
        due("5: the town stays", y.quarrel(3, 4), 0);
        y.wipe();
        writeAll(y, "nc,3,3;");
        due("5: one", y.lay(), 1);
        int[] plain = {1, 20, 3, 1};
        for (int what = 0; what < 4; what++) {
            due("5: as without, count(" + what + ")", y.count(what), plain[what]);
        }
        due("5: no QUARREL of earlier TEXTS", y.quarrel(0, 1), 0);
        due("5: no QUARREL of earlier TEXTS", y.quarrel(3, 4), 0);
        due("5: THE ALPHABET as usual", y.alphabet(25, 0), 25);
        due("5: VOWELS as usual", y.alphabet(25, 2), 0);
        due("5: VOWELS as usual", y.alphabet(20, 2), 1);
    }

    static void promise6Person() {
        ByInitials x = town(SEVEN);
        int[][] all = {
            {3, 4, 20, NONE, 0, 5, 0, 1}, {3, 6, 9, NONE, 0, 3, 6, 1}, {4, 9, 40, NONE, 0, 1, 9, 0},
            {4, 2, 3, NONE, 0, 0, 2, 0}, {0, 5, 12, NONE, 0, 6, 0, 1}, {3, 3, 30, NONE, 0, 2, 3, 0},
            {2, 7, 1, NONE, 0, 4, 2, 0}};
        for (int i = 0; i < 7; i++) {
            for (int what = 0; what < 8; what++) {
                due("6: person(" + i + ", " + what + ")", x.person(i, what), all[i][what]);
            }
        }
        x.wed(0, 4);
        x.rename(3);
        due("6: wed", x.person(0, 3), 4);
        due("6: wed", x.person(4, 3), 0);
        due("6: not RENAMED, too dear", x.person(3, 4), 0);
        x.rename(2);
        due("6: RENAMED", x.person(2, 4), 1);
        due("6: NAMELESS by number", x.person(2, 5), 5);
        due("6: NAMELESS by number", x.person(4, 5), 6);
        due("6: what -1", x.person(0, -1), BAD);
        due("6: what 8", x.person(0, 8), BAD);
        due("6: i -1", x.person(-1, 0), BAD);
        due("6: i 7", x.person(7, 0), BAD);
        due("6: low, high", x.person(LOW, HIGH), BAD);
        ByInitials y = town("nab,3,1;nab,4,1;nabc,5,1;na,2,9;nb,0,0;oba;g8;");
        int[] ahead = {2, 3, 4, 1, 0};
        int[] gets = {3, 3, 0, 2, 0};
        for (int i = 0; i < 5; i++) {
            due("6: ahead of " + i, y.person(i, 5), ahead[i]);
            due("6: gets " + i, y.person(i, 6), gets[i]);
        }
        ByInitials z = town("nxa,9,0;n,9,0;nxc,9,0;nxb,9,0;vx;g99;");
        due("6: a told vowel", z.person(0, 7), 1);
        due("6: NAMELESS behind all", z.person(1, 5), 3);
        due("6: NAMELESS in OFFICE", z.person(1, 7), 1);
        due("6: by the second LETTER", z.person(2, 5), 2);
    }

    static void promise7Letter() {
        ByInitials x = new ByInitials();
        int[] quinn = {16, 20, 8, 13, 13};
        for (int k = 0; k < 5; k++) {
            due("7: quinn " + k, x.letter(1, k), quinn[k]);
        }
        due("7: behind", x.letter(1, 5), NONE);
        due("7: far behind", x.letter(1, HIGH), NONE);
        due("7: NAMELESS", x.letter(3, 0), NONE);
        due("7: k -1", x.letter(1, -1), BAD);
        due("7: k low", x.letter(3, LOW), BAD);
        due("7: i 4", x.letter(4, 0), BAD);
        due("7: i -1", x.letter(-1, 9), BAD);
        spellAll(x, "z");
        x.rename(2);
        due("7: shorter now", x.letter(2, 1), NONE);
    }

    static void promise8Alphabet() {
        ByInitials x = town("n,0,0;oqza;vqq;");
        int[] ranks = {2, 3, 4};
        for (int k = 0; k < 3; k++) {
            due("8: rank " + k, x.alphabet(k, 0), ranks[k]);
        }
        due("8: rank q", x.alphabet(16, 0), 0);
        due("8: rank r", x.alphabet(17, 0), 18);
        due("8: rank y", x.alphabet(24, 0), 25);
        due("8: of rank 0", x.alphabet(0, 1), 16);
        due("8: of rank 25", x.alphabet(25, 1), 24);
        due("8: vowel q", x.alphabet(16, 2), 1);
        due("8: no vowel a", x.alphabet(0, 2), 0);
        for (int c = 0; c < 26; c++) {
            due("8: there and back " + c, x.alphabet(x.alphabet(c, 0), 1), c);
        }
        due("8: x 26", x.alphabet(26, 0), BAD);
        due("8: x -1", x.alphabet(-1, 1), BAD);
        due("8: what 3", x.alphabet(0, 3), BAD);
        due("8: what -1", x.alphabet(0, -1), BAD);
        due("8: low", x.alphabet(LOW, 2), BAD);
    }

    static void promise9Quarrel() {
        ByInitials x = town("n,0,0;qab;qcc;");
        due("9: a b", x.quarrel(0, 1), 1);
        due("9: b a", x.quarrel(1, 0), 1);
        due("9: a a", x.quarrel(0, 0), 0);
        due("9: c c", x.quarrel(2, 2), 1);
        due("9: b c", x.quarrel(1, 2), 0);
        due("9: 26", x.quarrel(26, 0), BAD);
        due("9: -1", x.quarrel(0, -1), BAD);
        due("9: high, low", x.quarrel(HIGH, LOW), BAD);
    }

    // ---- changes

    static void promise10Spell() {
        ByInitials x = new ByInitials();
        due("10: 26", x.spell(26), BAD);
        due("10: -1", x.spell(-1), BAD);
        for (int k = 1; k <= 6; k++) {
            due("10: letter " + k, x.spell(k), k);
        }
        due("10: a seventh", x.spell(0), OVER);
        due("10: bad ahead of over", x.spell(HIGH), BAD);
        due("10: count", x.count(4), 6);
    }

    static void promise11Unspell() {
        ByInitials x = new ByInitials();
        due("11: empty", x.unspell(), 0);
        spellAll(x, "zo");
        due("11: two", x.unspell(), 2);
        due("11: empty again", x.unspell(), 0);
        due("11: first again", x.spell(3), 1);
    }

    static void promise12Price() {
        ByInitials x = town("nadam,1,9;n,1,9;c3;");
        due("12: empty WORD", x.price(0), 12);
        due("12: both empty", x.price(1), 0);
        spellAll(x, "adam");
        due("12: alike", x.price(0), 0);
        due("12: from none", x.price(1), 12);
        spellAll(x, "abamxy");
        due("12: one unlike, two longer", x.price(0), 9);
        spellAll(x, "da");
        due("12: all unlike at their places", x.price(0), 12);
        due("12: i 2", x.price(2), BAD);
        due("12: i -1", x.price(-1), BAD);
    }

    static void promise13Rename() {
        ByInitials x = town("nadam,1,3;nbo,1,1;n,1,0;");
        due("13: too dear", x.rename(0), NO);
        due("13: NAMELESS to nothing", x.rename(2), 0);
        due("13: once a YEAR", x.rename(2), NO);
        due("13: RENAMED all the same", x.person(2, 4), 1);
        spellAll(x, "axaxa");
        due("13: all he has", x.rename(0), 0);
        due("13: its length", x.person(0, 0), 5);
        due("13: its letters", x.letter(0, 4), 0);
        due("13: THE WORD stays", x.count(4), 5);
        due("13: others as they are", x.person(1, 0), 2);
        due("13: once a YEAR, though alike", x.rename(0), NO);
        x.newYear();
        due("13: alike, for nothing", x.rename(0), 0);
        due("13: i 3", x.rename(3), BAD);
        due("13: i low", x.rename(LOW), BAD);
        due("13: undone can be", x.count(7), 4);
        spellAll(x, "b");
        due("13: shorter", x.rename(1), 0);
        due("13: shorter", x.letter(1, 1), NONE);
    }

    static void promise14May() {
        ByInitials x = town("na,0,0;nd,0,0;ne,0,0;nb,0,0;n,0,0;n,0,0;nbx,0,0;qbd;qbb;");
        due("14: three apart", x.may(0, 1), 1);
        due("14: and back", x.may(1, 0), 1);
        due("14: four apart", x.may(0, 2), 0);
        due("14: they QUARREL", x.may(1, 3), 0);
        due("14: alike ones QUARREL", x.may(3, 6), 0);
        due("14: NAMELESS", x.may(4, 2), 1);
        due("14: two NAMELESS", x.may(4, 5), 1);
        due("14: alike", x.may(2, 2), BAD);
        due("14: i 7", x.may(7, 0), BAD);
        due("14: k -1", x.may(0, -1), BAD);
        x.swap(4, 3);
        due("14: by RANK", x.may(0, 2), 1);
        due("14: by RANK", x.may(0, 1), 0);
        x.wed(4, 0);
        due("14: wed", x.may(0, 2), 0);
        due("14: NAMELESS, wed", x.may(4, 5), 0);
        due("14: with one who is wed", x.may(5, 4), 0);
    }

    static void promise15Wed() {
        ByInitials x = town("na,0,0;nb,0,0;nz,0,0;n,0,0;nc,0,0;");
        due("15: too far", x.wed(0, 2), NO);
        due("15: two", x.wed(1, 0), 2);
        due("15: count", x.count(5), 2);
        due("15: whom", x.person(0, 3), 1);
        due("15: whom", x.person(1, 3), 0);
        due("15: wed already", x.wed(0, 3), NO);
        due("15: again", x.wed(0, 1), NO);
        due("15: four", x.wed(3, 2), 4);
        due("15: alike", x.wed(4, 4), BAD);
        due("15: i 5", x.wed(5, 0), BAD);
        due("15: k -1", x.wed(0, -1), BAD);
        due("15: undone can be", x.count(7), 2);
    }

    static void promise16Lend() {
        ByInitials x = town("na,0,99;nb,0,9;n,0,50;na,0,0;n,0,0;");
        due("16: forward", x.lend(0, 1, 60), 60);
        due("16: more", x.lend(0, 1, 39), 99);
        due("16: coins gone", x.person(0, 2), 0);
        due("16: coins come", x.person(1, 2), 108);
        due("16: not had", x.lend(0, 1, 1), NO);
        due("16: backward", x.lend(1, 0, 1), NO);
        due("16: alike RANK", x.lend(3, 0, 1), NO);
        due("16: NAMELESS to all", x.lend(2, 0, 1), 1);
        due("16: all to NAMELESS", x.lend(1, 2, 99), 99);
        due("16: NAMELESS to NAMELESS", x.lend(2, 4, 1), 1);
        due("16: alike", x.lend(0, 0, 1), BAD);
        due("16: n 0", x.lend(2, 0, 0), BAD);
        due("16: n 100", x.lend(2, 0, 100), BAD);
        due("16: i 5", x.lend(5, 0, 1), BAD);
        due("16: j -1", x.lend(0, -1, 1), BAD);
        due("16: undone can be", x.count(7), 5);
        due("16: same RANK, with coins", x.lend(0, 3, 1), NO);
        ByInitials y = town("n,0,99;n,0,0;");
        for (int k = 1; k <= 10; k++) {
            due("16: to", y.lend(0, 1, 99), 99 * k);
            due("16: fro", y.lend(1, 0, 99), 99 * k);
        }
        due("16: above 999", y.lend(0, 1, 10), NO);
        due("16: 999", y.lend(0, 1, 9), 999);
        due("16: no more", y.lend(0, 1, 1), NO);
        due("16: coins stay", y.person(0, 2), 90);
        due("16: owed", y.owed(0, 1), 999);
    }

    static void promise17Repay() {
        ByInitials x = town("na,0,50;nb,0,0;nc,0,7;");
        due("17: not owed", x.repay(0, 1, 1), NO);
        x.lend(0, 1, 50);
        due("17: some", x.repay(0, 1, 20), 30);
        due("17: coins", x.person(0, 2), 20);
        due("17: coins", x.person(1, 2), 30);
        due("17: the other way round", x.repay(1, 0, 1), NO);
        due("17: more than owed", x.repay(0, 1, 31), NO);
        x.lend(1, 2, 10);
        due("17: not had", x.repay(0, 1, 21), NO);
        due("17: all had", x.repay(0, 1, 20), 10);
        x.repay(1, 2, 10);
        due("17: all", x.repay(0, 1, 10), 0);
        due("17: alike", x.repay(0, 0, 1), BAD);
        due("17: n 0", x.repay(0, 1, 0), BAD);
        due("17: n 100", x.repay(0, 1, 100), BAD);
        due("17: i 3", x.repay(3, 0, 1), BAD);
        due("17: j -1", x.repay(0, -1, 1), BAD);
        due("17: undone can be", x.count(7), 6);
        ByInitials y = town("na,0,99;nb,0,0;");
        y.lend(0, 1, 99);
        due("17: n 99", y.repay(0, 1, 99), 0);
    }

    static void promise18Swap() {
        ByInitials x = town("na,5,0;nz,5,0;g5;");
        due("18: a z", x.swap(0, 25), 25);
        due("18: rank of z", x.alphabet(25, 0), 0);
        due("18: of rank 25", x.alphabet(25, 1), 0);
        due("18: who comes ahead", x.person(0, 5), 1);
        due("18: what he gets", x.person(0, 6), 0);
        due("18: z b", x.swap(25, 1), 1);
        due("18: alike", x.swap(3, 3), BAD);
        due("18: 26", x.swap(26, 0), BAD);
        due("18: -1", x.swap(0, -1), BAD);
        due("18: undone can be", x.count(7), 2);
    }

    static void promise19NewYear() {
        ByInitials x = town("na,5,9;nz,5,9;n,0,0;");
        due("19: nobody", x.newYear(), 0);
        x.rename(0);
        x.rename(2);
        due("19: two", x.newYear(), 2);
        due("19: none now", x.person(0, 4), 0);
        due("19: nobody", x.newYear(), 0);
        due("19: undone can be", x.count(7), 5);
        x.undo();
        x.undo();
        due("19: RENAMED again", x.person(2, 4), 1);
    }

    static void promise20Undo() {
        ByInitials x = town("na,5,50;nb,5,9;n,0,0;nz,1,1;");
        due("20: nothing", x.undo(), NO);
        spellAll(x, "cd");
        x.rename(0);
        x.wed(0, 1);
        x.lend(0, 2, 20);
        x.repay(0, 2, 5);
        x.swap(0, 25);
        x.newYear();
        x.wed(0, 2);
        x.rename(9);
        x.swap(1, 1);
        due("20: those that were NO or BAD are none", x.count(7), 6);
        due("20: the YEAR", x.undo(), 5);
        due("20: RENAMED", x.person(0, 4), 1);
        due("20: the places", x.undo(), 4);
        due("20: RANK", x.alphabet(0, 0), 0);
        due("20: RANK, told back", x.alphabet(0, 1), 0);
        due("20: what was repaid", x.undo(), 3);
        due("20: owed", x.owed(0, 2), 20);
        due("20: coins", x.person(2, 2), 20);
        due("20: what was lent", x.undo(), 2);
        due("20: owed", x.owed(0, 2), 0);
        due("20: coins", x.person(0, 2), 48);
        due("20: the wedding", x.undo(), 1);
        due("20: wed", x.person(1, 3), NONE);
        x.spell(0);
        due("20: the NAME", x.undo(), 0);
        due("20: NAME", x.letter(0, 0), 0);
        due("20: NAME", x.person(0, 0), 1);
        due("20: coins", x.person(0, 2), 50);
        due("20: not RENAMED", x.person(0, 4), 0);
        due("20: THE WORD stays", x.count(4), 3);
        due("20: nothing", x.undo(), NO);
        for (int k = 1; k <= 11; k++) {
            x.swap(k, k + 1);
        }
        due("20: eight", x.count(7), 8);
        for (int k = 7; k >= 0; k--) {
            due("20: undo", x.undo(), k);
        }
        due("20: no more", x.undo(), NO);
        due("20: three stay", x.alphabet(1, 0), 2);
        due("20: three stay", x.alphabet(4, 0), 1);
        due("20: the others do not", x.alphabet(5, 0), 5);
        for (int k = 0; k < 30; k++) {
            x.lend(0, 1, 1);
        }
        for (int k = 7; k >= 0; k--) {
            due("20: undo", x.undo(), k);
            due("20: the latest first", x.owed(0, 1), 22 + k);
        }
    }

    // ---- names

    static void promise21Change() {
        ByInitials x = town(SEVEN);
        int[] letters = {16, 0, 16, 16, NO, 25, 16};
        int[] gains = {102, 106, 109, 102, NO, 103, 105};
        for (int i = 0; i < 7; i++) {
            due("21: letter of " + i, x.change(i, 0), letters[i]);
            due("21: gain of " + i, x.change(i, 1), gains[i]);
        }
        due("21: nothing changes", x.letter(0, 0), 4);
        due("21: what 2, NAMELESS", x.change(4, 2), BAD);
        due("21: what -1", x.change(0, -1), BAD);
        due("21: i 7", x.change(7, 0), BAD);
        due("21: i -1", x.change(-1, 0), BAD);
        ByInitials y = town("nz,3,0;ny,5,0;g9;c0;ok;");
        due("21: for nothing, the lowest RANK", y.change(0, 0), 10);
        ByInitials z = town("nz,3,0;ny,5,0;g5;c3;");
        due("21: as much either way, the lowest RANK", z.change(0, 0), 0);
        due("21: as much either way", z.change(0, 1), 100);
        ByInitials d = town("nz,3,0;ny,5,0;g5;c4;");
        due("21: too dear", d.change(0, 0), 25);
    }

    static void promise22Run() {
        ByInitials x = town("ng,6,0;nm,3,0;nm,2,0;g9;c1;");
        due("22: rounds", x.run(-1), 3);
        due("22: letters", x.run(0), 0);
        due("22: nothing changes", x.letter(0, 0), 6);
        ByInitials y = town("na,7,0;g0;c3;n,1,1;");
        due("22: no round", y.run(-1), 0);
        due("22: letter", y.run(0), 0);
        due("22: NAMELESS", y.run(1), NONE);
        ByInitials z = town("nb,4,0;g4;c0;");
        due("22: a round", z.run(-1), 1);
        due("22: letter", z.run(0), 0);
        ByInitials s = town("nb,5,0;nb,4,0;nb,9,0;nd,5,0;nd,7,0;nd,4,0;nd,7,0;ne,7,0;g45;c3;");
        due("22: eight rounds", s.run(-1), 8);
        due("22: i -2", x.run(-2), BAD);
        due("22: i 3", x.run(3), BAD);
        due("22: low", x.run(LOW), BAD);
        due("22: high", x.run(HIGH), BAD);
    }

    static void promise23Shortest() {
        ByInitials x = new ByInitials();
        due("23: no RIGHTS", x.shortest(2, 0, 0, 0, 0), 1);
        due("23: no RIGHTS", x.shortest(2, 0, 0, 0, 1), 0);
        due("23: no second", x.shortest(2, 0, 0, 0, 2), NONE);
        due("23: no third", x.shortest(2, 0, 0, 0, 3), NONE);
        due("23: all three", x.shortest(2, 7, 1, 1, 1), 14);
        due("23: ahead of himself", x.shortest(1, 2, 1, 0, 0), NONE);
        due("23: ahead of NAMELESS", x.shortest(3, 2, 3, 0, 0), NONE);
        due("23: ahead of NAMELESS", x.shortest(2, 2, 3, 0, 1), 0);
        due("23: near a NAMELESS one", x.shortest(2, 4, 0, 3, 1), 0);
        due("23: near himself as he is", x.shortest(2, 4, 0, 2, 1), 22);
        due("23: near, no QUARREL", x.shortest(2, 4, 0, 0, 1), 0);
        due("23: near, OFFICE", x.shortest(1, 5, 0, 2, 0), NONE);
        due("23: rights 8", x.shortest(2, 8, 0, 0, 0), BAD);
        due("23: rights -1", x.shortest(2, -1, 0, 0, 0), BAD);
        due("23: what 4", x.shortest(2, 0, 0, 0, 4), BAD);
        due("23: what -1", x.shortest(2, 0, 0, 0, -1), BAD);
        due("23: i 4", x.shortest(4, 0, 0, 0, 0), BAD);
        due("23: j 4", x.shortest(0, 0, 4, 0, 0), BAD);
        due("23: k -1", x.shortest(0, 0, 0, -1, 0), BAD);
        ByInitials y = town("na,1,1;na,1,1;naa,1,1;w0;qaa;");
        due("23: alike, lower number", y.shortest(0, 2, 1, 0, 0), 1);
        due("23: alike, higher number", y.shortest(1, 2, 0, 0, 0), NONE);
        due("23: the beginning", y.shortest(1, 2, 2, 0, 1), 0);
        due("23: QUARREL with itself", y.shortest(0, 4, 1, 0, 0), NONE);
        ByInitials z = town("nc,1,1;ne,1,1;ozyxe;vezy;");
        due("23: first by THE ALPHABET", z.shortest(0, 1, 0, 0, 1), 25);
        due("23: ahead by THE ALPHABET", z.shortest(0, 2, 1, 0, 1), 25);
    }

    // ---- weddings

    static void promise24Match() {
        ByInitials x = town("na,0,0;nb,0,0;nd,0,0;ne,0,0;nz,0,0;w3;");
        due("24: two", x.match(-1), 2);
        int[] with = {1, 0, 3, 2, NONE};
        for (int i = 0; i < 5; i++) {
            due("24: whom " + i, x.match(i), with[i]);
        }
        ByInitials y = town("nb,0,0;nc,0,0;na,0,0;nd,0,0;w1;");
        due("24: most ahead of first", y.match(-1), 2);
        due("24: most ahead of first", y.match(0), 2);
        due("24: most ahead of first", y.match(3), 1);
        ByInitials z = town("nz,0,0;na,0,0;nb,0,0;nc,0,0;w1;");
        due("24: nobody", z.match(0), NONE);
        due("24: the first way", z.match(1), 2);
        due("24: the first way", z.match(3), NONE);
        x.wed(0, 1);
        due("24: those who are wed are not", x.match(-1), 1);
        due("24: those who are wed are not", x.match(0), NONE);
        due("24: i -2", x.match(-2), BAD);
        due("24: i 5", x.match(5), BAD);
        ByInitials e = town("n,0,0;n,0,0;n,0,0;n,0,0;n,0,0;n,0,0;n,0,0;n,0,0;");
        due("24: four", e.match(-1), 4);
        due("24: four", e.match(6), 7);
        ByInitials f = town("nb,0,0;na,0,0;nz,0,0;nc,0,0;nd,0,0;ne,0,0;w1;");
        int[] whom = {1, 0, NONE, 4, 3, NONE};
        for (int i = 0; i < 6; i++) {
            due("24: whom in six " + i, f.match(i), whom[i]);
        }
    }

    static void promise25Wide() {
        ByInitials x = town("na,0,0;nc,0,0;nh,0,0;nz,0,0;w0;");
        due("25: one", x.wide(1), 2);
        due("25: two", x.wide(2), 18);
        due("25: three", x.wide(3), NONE);
        due("25: W as it is", x.count(2), 0);
        due("25: n 0", x.wide(0), BAD);
        due("25: n 5", x.wide(5), BAD);
        due("25: low", x.wide(LOW), BAD);
        due("25: four", town("na,0,0;nc,0,0;nf,0,0;nj,0,0;no,0,0;nu,0,0;ny,0,0;n,0,0;").wide(4), 4);
        ByInitials y = town("na,0,0;nz,0,0;");
        due("25: as wide as can be", y.wide(1), 25);
        ByInitials z = town("na,0,0;nz,0,0;qaz;");
        due("25: they QUARREL", z.wide(1), NONE);
        ByInitials e = town("na,0,0;na,0,0;n,0,0;nz,0,0;");
        due("25: none is needed", e.wide(2), 0);
        e.wed(0, 1);
        due("25: wed ones are not", e.wide(2), NONE);
    }

    // ---- debts

    static void promise26Owed() {
        ByInitials x = town("na,0,50;nb,0,0;");
        x.lend(0, 1, 7);
        due("26: b owes a", x.owed(0, 1), 7);
        due("26: a owes b", x.owed(1, 0), 0);
        due("26: himself", x.owed(0, 0), 0);
        due("26: i 2", x.owed(2, 0), BAD);
        due("26: j -1", x.owed(0, -1), BAD);
    }

    static void promise27Net() {
        ByInitials x = town("na,0,50;nb,0,0;nc,0,0;");
        x.lend(0, 1, 7);
        x.lend(0, 2, 9);
        x.lend(1, 2, 3);
        due("27: a", x.net(0), 10016);
        due("27: b", x.net(1), 9996);
        due("27: c", x.net(2), 9988);
        due("27: i 3", x.net(3), BAD);
        due("27: i -1", x.net(-1), BAD);
    }

    static void promise28Chain() {
        ByInitials x = town("na,0,50;nb,0,0;nc,0,0;n,0,9;");
        due("28: nobody owes", x.chain(), 0);
        x.lend(0, 1, 7);
        due("28: one", x.chain(), 1);
        x.lend(0, 2, 7);
        due("28: one still", x.chain(), 1);
        x.lend(1, 2, 7);
        due("28: two", x.chain(), 2);
        x.lend(2, 3, 7);
        due("28: three", x.chain(), 3);
        x.lend(3, 1, 7);
        due("28: round", x.chain(), NONE);
        x.undo();
        due("28: three again", x.chain(), 3);
        x.lend(3, 0, 1);
        due("28: all round", x.chain(), NONE);
        ByInitials e = town("na,0,9;nb,0,9;nc,0,9;nd,0,9;ne,0,9;nf,0,9;ng,0,9;nh,0,9;");
        for (int i = 6; i >= 0; i--) {
            e.lend(i, i + 1, 1);
        }
        due("28: the longest that can be", e.chain(), 7);
        for (int i = 0; i < 7; i++) {
            e.repay(i, i + 1, 1);
        }
        due("28: nobody owes any more", e.chain(), 0);
        ByInitials up = town("nd,0,9;nc,0,9;nb,0,9;na,0,9;");
        up.lend(3, 2, 1);
        up.lend(2, 1, 1);
        up.lend(1, 0, 1);
        due("28: by falling numbers", up.chain(), 3);
        ByInitials two = town("na,0,9;nb,0,9;");
        two.lend(0, 1, 1);
        due("28: two", two.chain(), 1);
        ByInitials first = town("nb,0,9;na,0,9;");
        first.lend(1, 0, 1);
        due("28: PERSON 0 owes", first.chain(), 1);
        first.repay(1, 0, 1);
        due("28: he has repaid", first.chain(), 0);
    }

    static void promise29Payments() {
        ByInitials x = town("na,0,50;nb,0,50;nc,0,0;nd,0,0;ne,0,0;n,0,0;");
        due("29: none", x.payments(), 0);
        x.lend(0, 2, 5);
        due("29: one", x.payments(), 1);
        x.lend(1, 3, 5);
        due("29: two", x.payments(), 2);
        x.lend(0, 4, 2);
        due("29: three", x.payments(), 3);
        x.lend(1, 4, 1);
        due("29: four", x.payments(), 4);
        ByInitials y = town("na,0,50;nb,0,50;nc,0,0;");
        y.lend(0, 1, 5);
        y.lend(1, 2, 5);
        due("29: through one", y.payments(), 1);
        ByInitials z = town("n,0,50;n,0,50;");
        z.lend(0, 1, 5);
        z.lend(1, 0, 5);
        due("29: cleared", z.payments(), 0);
    }

    // ---- seats, letters, ledgers

    static void promise30Seats() {
        ByInitials x = new ByInitials();
        int[] sit = {0, 2, 1, 3};
        for (int k = 0; k < 4; k++) {
            due("30: place " + k, x.seats(k), sit[k]);
        }
        due("30: quarrels", x.seats(-1), 0);
        due("30: ways", x.seats(-2), 2);
        due("30: place 4", x.seats(4), BAD);
        due("30: place -3", x.seats(-3), BAD);
        ByInitials one = town("na,0,0;qaa;");
        due("30: one", one.seats(-1), 0);
        due("30: one", one.seats(-2), 1);
        due("30: one", one.seats(0), 0);
        ByInitials two = town("na,0,0;na,0,0;qaa;");
        due("30: two are beside each other once", two.seats(-1), 1);
        due("30: two", two.seats(-2), 1);
        ByInitials three = town("na,0,0;na,0,0;nab,0,0;qaa;");
        due("30: three", three.seats(-1), 3);
        due("30: three", three.seats(-2), 2);
        due("30: three", three.seats(1), 1);
        ByInitials last = town("na,0,0;nb,0,0;nc,0,0;nd,0,0;qad;");
        due("30: the last one and the first", last.seats(-1), 0);
        due("30: the last one and the first", last.seats(2), 3);
        due("30: the last one and the first", last.seats(3), 2);
        ByInitials n = town("n,0,0;na,0,0;n,0,0;na,0,0;qaa;");
        due("30: NAMELESS never", n.seats(-1), 0);
        due("30: NAMELESS never", n.seats(2), 2);
        due("30: NAMELESS never", n.seats(-2), 2);
        ByInitials again = town("na,0,1;na,0,1;nb,0,1;nb,0,1;qaa;");
        due("30: two a", again.seats(-1), 0);
        due("30: two a", again.seats(-2), 2);
        spellAll(again, "b");
        again.rename(1);
        due("30: RENAMED", again.seats(-2), 6);
        again.undo();
        due("30: undone", again.seats(-2), 2);
        ByInitials few = town("na,0,0;na,0,0;na,0,0;nb,0,0;nb,0,0;qaa;");
        due("30: one at least", few.seats(-1), 1);
        due("30: one at least", few.seats(-2), 12);
        due("30: one at least", few.seats(1), 1);
        due("30: one at least", few.seats(2), 3);
        due("30: one at least", few.seats(3), 2);
    }

    static void promise31BestSwap() {
        ByInitials x = town("na,9,0;nb,3,0;nc,3,0;nd,3,0;g9;");
        due("31: now", x.count(10), 1);
        due("31: the two", x.bestSwap(0), 3);
        due("31: how many", x.bestSwap(1), 3);
        due("31: nothing changes", x.alphabet(0, 0), 0);
        due("31: what 2", x.bestSwap(2), BAD);
        due("31: what -1", x.bestSwap(-1), BAD);
        ByInitials y = town("na,9,0;nb,3,0;nc,9,0;g9;");
        due("31: no more than now", y.bestSwap(0), NONE);
        due("31: no more than now", y.bestSwap(1), NONE);
        ByInitials z = town("ncz,9,0;nd,4,0;ne,4,0;ncy,1,0;g9;");
        due("31: of several the first", z.bestSwap(0), 26 * 2 + 4);
        due("31: how many", z.bestSwap(1), 3);
        ByInitials w = town("nq,9,0;nb,5,0;na,5,0;n,0,0;g9;oqba;");
        due("31: the lower LETTER first", w.bestSwap(0), NONE);
        ByInitials v = town("nq,9,0;nb,4,0;na,5,0;g9;oqba;");
        due("31: the lower LETTER first", v.bestSwap(0), 16);
        due("31: how many", v.bestSwap(1), 2);
        ByInitials beside = town("na,9,0;nb,3,0;nc,1,0;g9;");
        due("31: now", beside.count(10), 1);
        due("31: to the end", beside.bestSwap(0), 2);
        due("31: to the end", beside.bestSwap(1), 2);
        ByInitials one = town("nb,9,0;nc,3,0;nc,3,0;g6;");
        due("31: LETTERS beside each other", one.bestSwap(0), 26 + 2);
        due("31: only LETTERS of PERSONS", town("nb,9,0;nbc,3,0;nbd,3,0;g9;").bestSwap(0), NONE);
        due("31: only first LETTERS", town("nbc,9,0;nbd,3,0;nbe,3,0;g9;").bestSwap(0), NONE);
        due("31: not a, nobody's", town("nz,3,0;ny,9,0;g9;").bestSwap(0), NONE);
    }

    static void promise32Enter() {
        ByInitials x = new ByInitials();
        due("32: x 26", x.enter(26, 0), BAD);
        due("32: x -1", x.enter(-1, 0), BAD);
        due("32: got 10", x.enter(0, 10), BAD);
        due("32: got -1", x.enter(0, -1), BAD);
        for (int k = 1; k <= 8; k++) {
            due("32: row " + k, x.enter(25, k % 2 == 0 ? 0 : 9), k);
        }
        due("32: a ninth", x.enter(0, 0), OVER);
        due("32: bad ahead of over", x.enter(0, 10), BAD);
        due("32: count", x.count(6), 8);
    }

    static void promise33Close() {
        ByInitials x = new ByInitials();
        due("33: none", x.close(), 0);
        x.enter(0, 5);
        x.enter(0, 5);
        due("33: two", x.close(), 2);
        due("33: none", x.close(), 0);
        due("33: fits again", x.fits(), 1);
        due("33: first again", x.enter(0, 5), 1);
    }

    static void promise34Fits() {
        ByInitials x = town("na,2,0;nab,2,0;nac,2,0;nb,2,0;n,2,0;na,3,0;g99;");
        due("34: no rows", x.fits(), 1);
        x.enter(0, 2);
        due("34: three", x.fits(), 3);
        x.enter(1, 2);
        due("34: three still", x.fits(), 3);
        x.enter(0, 2);
        due("34: six", x.fits(), 6);
        x.enter(0, 3);
        due("34: six still", x.fits(), 6);
        x.enter(0, 2);
        due("34: six for three", x.fits(), 6);
        x.enter(0, 2);
        due("34: too many", x.fits(), 0);
        ByInitials e = town("na,0,0;na,0,0;na,0,0;na,0,0;na,0,0;na,0,0;na,0,0;na,0,0;");
        for (int k = 0; k < 8; k++) {
            e.enter(0, 0);
        }
        due("34: all ways", e.fits(), 40320);
        ByInitials g = town("na,5,0;nb,5,0;g7;");
        g.enter(1, 5);
        due("34: what he wants is not what he GETS", g.fits(), 0);
        g.close();
        g.enter(1, 2);
        due("34: what he GETS", g.fits(), 1);
        g.swap(0, 1);
        due("34: by the morning as it is", g.fits(), 0);
        ByInitials n = town("n,5,0;");
        n.enter(0, 5);
        due("34: a NAMELESS one has no LETTER", n.fits(), 0);
    }

    static void promise35Sure() {
        ByInitials x = town("na,2,0;nab,2,0;nb,2,0;na,3,0;g99;");
        due("35: no row", x.sure(0), BAD);
        x.enter(0, 2);
        due("35: one of two", x.sure(0), NONE);
        x.enter(0, 3);
        due("35: the only one", x.sure(1), 3);
        x.enter(1, 2);
        due("35: the only one", x.sure(2), 2);
        x.enter(0, 2);
        due("35: one of two still", x.sure(3), NONE);
        due("35: row 4", x.sure(4), BAD);
        due("35: row -1", x.sure(-1), BAD);
        due("35: low", x.sure(LOW), BAD);
        x.enter(0, 3);
        due("35: no way", x.sure(2), NONE);
    }

    static void promise36Year() {
        ByInitials x = town(SEVEN);
        due("36: 0 full", x.year(0, 0), 4);
        due("36: 0 office", x.year(0, 1), 1);
        due("36: 5000 office", x.year(5000, 1), 3);
        due("36: 9999 full", x.year(9999, 0), 4);
        due("36: 9999 office", x.year(9999, 1), 3);
        due("36: nothing changes", x.letter(0, 0), 4);
        due("36: z -1", x.year(-1, 0), BAD);
        due("36: z 10000", x.year(10000, 0), BAD);
        due("36: what 2", x.year(0, 2), BAD);
        due("36: what -1", x.year(0, -1), BAD);
        ByInitials five = town("nbb,9,0;nba,5,0;nbc,4,0;g9;");
        int firsts = 0;
        for (int z = 0; z < 200; z++) {
            firsts += five.year(z, 0);
        }
        due("36: full in 200 YEARS", firsts, fullInYears());
        ByInitials one = town("nzb,0,0;n,0,0;");
        int office = 0;
        for (int z = 0; z < 400; z++) {
            long x0 = 7919L * z + 1;
            office = "aeiou".indexOf((char) ('a' + x0 * x0 % 65521 % 26)) >= 0 ? 2 : 1;
            due("36: office by " + z, one.year(z, 1), office);
        }
    }

    /** bb, ba and bc, who want 9, 5 and 4 of 9, by first LETTERS of 200 YEARS. */
    static int fullInYears() {
        String[] rest = {"b", "a", "c"};
        int[] wants = {9, 5, 4};
        int sum = 0;
        for (int z = 0; z < 200; z++) {
            String[] names = new String[3];
            for (int i = 0; i < 3; i++) {
                long x = 7919L * z + 6151L * i + 1;
                names[i] = (char) ('a' + x * x % 65521 % 26) + rest[i];
            }
            for (int i = 0; i < 3; i++) {
                int left = 9;
                for (int j = 0; j < 3; j++) {
                    left -= names[j].compareTo(names[i]) < 0 ? wants[j] : 0;
                }
                sum += left >= wants[i] ? 1 : 0;
            }
        }
        return sum;
    }

    static void promise37Keep() {
        ByInitials x = new ByInitials();
        due("37: one", x.keep(), 1);
        due("37: two", x.keep(), 2);
        due("37: no room", x.keep(), OVER);
        due("37: count", x.count(8), 2);
        x.back();
        due("37: two again", x.keep(), 2);
        x.newYear();
        due("37: undone can be still", x.count(7), 1);
    }

    static void promise38Back() {
        ByInitials x = town("na,1,50;nb,1,9;nc,1,1;");
        due("38: none", x.back(), NO);
        x.newYear();
        x.keep();
        x.lend(0, 1, 5);
        x.wed(0, 1);
        spellAll(x, "xy");
        x.rename(2);
        x.rename(0);
        x.keep();
        x.swap(0, 1);
        x.enter(0, 1);
        due("38: the last one", x.back(), 1);
        due("38: owed", x.owed(0, 1), 5);
        due("38: wed", x.person(0, 3), 1);
        due("38: RENAMED", x.letter(0, 0), 23);
        due("38: RENAMED", x.person(0, 4), 1);
        due("38: THE ALPHABET", x.alphabet(0, 0), 0);
        due("38: THE WORD stays", x.count(4), 2);
        due("38: THE LEDGER stays", x.count(6), 1);
        due("38: nothing UNDONE", x.count(7), 0);
        due("38: nothing UNDONE", x.undo(), NO);
        due("38: the first one", x.back(), 0);
        due("38: owed", x.owed(0, 1), 0);
        due("38: wed", x.person(0, 3), NONE);
        due("38: NAME", x.letter(0, 0), 0);
        due("38: coins", x.person(0, 2), 50);
        due("38: none", x.back(), NO);
        x.swap(0, 1);
        due("38: NO leaves UNDONE", x.back(), NO);
        due("38: NO leaves UNDONE", x.count(7), 1);
    }

    static void promise39Count() {
        ByInitials x = town(SEVEN);
        x.spell(1);
        x.wed(0, 4);
        x.newYear();
        x.keep();
        x.enter(0, 1);
        int[] counts = {7, 22, 2, 2, 1, 2, 1, 2, 1, SEVEN.length(), 4};
        for (int what = 0; what < counts.length; what++) {
            due("39: count(" + what + ")", x.count(what), counts[what]);
        }
        due("39: 11", x.count(11), BAD);
        due("39: -1", x.count(-1), BAD);
        due("39: low", x.count(LOW), BAD);
        due("39: high", x.count(HIGH), BAD);
        due("39: who wants nothing is FULL", town("na,9,0;nb,0,0;g0;").count(10), 1);
    }

    public static void main(String[] args) {
        promise1NewObject();
        promise2Write();
        promise3Wipe();
        promise4Fault();
        promise5Lay();
        promise6Person();
        promise7Letter();
        promise8Alphabet();
        promise9Quarrel();
        promise10Spell();
        promise11Unspell();
        promise12Price();
        promise13Rename();
        promise14May();
        promise15Wed();
        promise16Lend();
        promise17Repay();
        promise18Swap();
        promise19NewYear();
        promise20Undo();
        promise21Change();
        promise22Run();
        promise23Shortest();
        promise24Match();
        promise25Wide();
        promise26Owed();
        promise27Net();
        promise28Chain();
        promise29Payments();
        promise30Seats();
        promise31BestSwap();
        promise32Enter();
        promise33Close();
        promise34Fits();
        promise35Sure();
        promise36Year();
        promise37Keep();
        promise38Back();
        promise39Count();
        System.out.println(asked + " answers, " + wrong + " are not as due");
        if (wrong != 0) {
            System.exit(1);
        }
    }
}
