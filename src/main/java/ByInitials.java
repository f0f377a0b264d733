/** A town ruled by the alphabet: who is served first, who may wed, who lends to whom. */
public final class ByInitials {
    public static final int BAD = -1, NO = -2, OVER = -3, NONE = -4;

    private static final int PEOPLE = 8;
    private static final int LETTERS = 26;
    private static final int LONGEST = 6;
    private static final int TEXT = 200;
    private static final int MOST_WANTED = 9;
    private static final int MOST_OWED = 999;
    private static final int MOST_LENT = 99;
    private static final int MOST_ROUNDS = 20;
    private static final int LAST_DRAW = 9999;
    private static final int SETS = 1 << PEOPLE;
    private static final String FIRST_TOWN = "nadam,5,9;nquinn,9,5;nzoe,8,30;n,3,0;qaq;";

    private final Page page = new Page();
    private final Town town = new Town();
    // A TEXT is read into a town of its own: if it has a FAULT, the town stays as it is.
    private final Town draft = new Town();
    private final Memory undoable = new Memory(8);
    private final Memory kept = new Memory(2);
    private final Line line = new Line();
    private final Matches matches = new Matches();
    private final Table table = new Table();
    private final Debts debts = new Debts();
    private final Ledger ledger = new Ledger();
    private final int[] word = new int[LONGEST];
    private int wordSize;

    public ByInitials() {
        for (int k = 0; k < FIRST_TOWN.length(); k++) {
            page.add(FIRST_TOWN.charAt(k));
        }
        page.readInto(town);
        page.length = 0;
    }

    // ---- towns

    public int write(int letter) {
        if (letter < 32 || letter > 126) {
            return BAD;
        }
        return page.add(letter) ? page.length : OVER;
    }

    public int wipe() {
        int had = page.length;
        page.length = 0;
        return had;
    }

    public int fault() {
        return page.readInto(draft);
    }

    public int lay() {
        if (page.readInto(draft) != NONE || draft.people == 0) {
            return NO;
        }
        town.copyFrom(draft);
        wordSize = 0;
        ledger.rows = 0;
        undoable.held = 0;
        kept.held = 0;
        return town.people;
    }

    public int person(int i, int what) {
        if (!isPerson(i)) {
            return BAD;
        }
        switch (what) {
            case 0: return town.sizes[i];
            case 1: return town.wants[i];
            case 2: return town.coins[i];
            case 3: return town.spouses[i];
            case 4: return town.renamed[i];
            case 5: return lineNow().placeOf(i);
            case 6: return lineNow().getsNow(i);
            case 7: return town.holdsOffice(i) ? 1 : 0;
            default: return BAD;
        }
    }

    public int letter(int i, int k) {
        if (!isPerson(i) || k < 0) {
            return BAD;
        }
        return town.letterOf(i, k);
    }

    public int alphabet(int x, int what) {
        if (!isLetter(x)) {
            return BAD;
        }
        switch (what) {
            case 0: return town.ranks[x];
            case 1: return town.order[x];
            case 2: return town.isVowel(x) ? 1 : 0;
            default: return BAD;
        }
    }

    public int quarrel(int x, int y) {
        if (!isLetter(x) || !isLetter(y)) {
            return BAD;
        }
        return town.areEnemies(x, y) ? 1 : 0;
    }

    // ---- changes

    public int spell(int x) {
        if (!isLetter(x)) {
            return BAD;
        }
        if (wordSize >= LONGEST) {
            return OVER;
        }
        word[wordSize] = x;
        wordSize++;
        return wordSize;
    }

    public int unspell() {
        int had = wordSize;
        wordSize = 0;
        return had;
    }

    public int price(int i) {
        return isPerson(i) ? priceOfWord(i) : BAD;
    }

    public int rename(int i) {
        if (!isPerson(i)) {
            return BAD;
        }
        int costs = priceOfWord(i);
        if (town.renamed[i] == 1 || town.coins[i] < costs) {
            return NO;
        }
        undoable.push(town);
        town.giveName(i, word, wordSize);
        town.renamed[i] = 1;
        town.coins[i] -= costs;
        return town.coins[i];
    }

    public int may(int i, int k) {
        if (!areTwo(i, k)) {
            return BAD;
        }
        return town.mayWed(i, k, town.reach) ? 1 : 0;
    }

    public int wed(int i, int k) {
        if (!areTwo(i, k)) {
            return BAD;
        }
        if (!town.mayWed(i, k, town.reach)) {
            return NO;
        }
        undoable.push(town);
        town.spouses[i] = k;
        town.spouses[k] = i;
        return town.countWed();
    }

    public int lend(int i, int j, int n) {
        if (!areTwo(i, j) || n < 1 || n > MOST_LENT) {
            return BAD;
        }
        int then = town.debt(i, j) + n;
        if (town.coins[i] < n || then > MOST_OWED || !town.mayLend(i, j)) {
            return NO;
        }
        undoable.push(town);
        town.pay(i, j, n);
        town.setDebt(i, j, then);
        return then;
    }

    public int repay(int i, int j, int n) {
        if (!areTwo(i, j) || n < 1 || n > MOST_LENT) {
            return BAD;
        }
        int then = town.debt(i, j) - n;
        if (then < 0 || town.coins[j] < n) {
            return NO;
        }
        undoable.push(town);
        town.pay(j, i, n);
        town.setDebt(i, j, then);
        return then;
    }

    public int swap(int x, int y) {
        if (!isLetter(x) || !isLetter(y) || x == y) {
            return BAD;
        }
        undoable.push(town);
        town.exchange(x, y);
        return town.ranks[x];
    }

    public int newYear() {
        undoable.push(town);
        int had = 0;
        for (int i = 0; i < town.people; i++) {
            had += town.renamed[i];
            town.renamed[i] = 0;
        }
        return had;
    }

    public int undo() {
        return undoable.popInto(town) ? undoable.held : NO;
    }

    // ---- names

    public int change(int i, int what) {
        if (!isPerson(i) || what < 0 || what > 1) {
            return BAD;
        }
        if (town.isNameless(i)) {
            return NO;
        }
        lineNow();
        int best = line.bestFirst(i);
        return what == 0 ? best : line.gainBy(i, best) + 100;
    }

    public int run(int i) {
        if (i != -1 && !isPerson(i)) {
            return BAD;
        }
        if (i != -1 && town.isNameless(i)) {
            return NONE;
        }
        lineNow();
        int rounds = 0;
        while (rounds < MOST_ROUNDS && line.allChange()) {
            rounds++;
        }
        if (i != -1) {
            return line.town.first(i);
        }
        return rounds == MOST_ROUNDS && line.allChange() ? NONE : rounds;
    }

    public int shortest(int i, int rights, int j, int k, int what) {
        if (!isPerson(i) || !isPerson(j) || !isPerson(k)) {
            return BAD;
        }
        if (rights < 0 || rights > 7 || what < 0 || what > 3) {
            return BAD;
        }
        // Two of the RIGHTS hang on the first LETTER alone, and a NAME's beginning comes
        // AHEAD of the NAME: so if a longer NAME has them, its first LETTER alone has them.
        int x = what > 1 ? NONE : firstWithRights(i, rights, j, k);
        if (x == NONE) {
            return NONE;
        }
        return what == 0 ? 1 : x;
    }

    // ---- weddings

    public int match(int i) {
        if (i != -1 && !isPerson(i)) {
            return BAD;
        }
        int most = matches.most(town, town.reach);
        return i == -1 ? most : matches.partnerOf(i, town.people);
    }

    public int wide(int n) {
        if (n < 1 || n > PEOPLE / 2) {
            return BAD;
        }
        if (matches.most(town, LETTERS - 1) < n) {
            return NONE;
        }
        // Whoever MAY WED by a law may by a wider one: so each half can be left out whole.
        int least = 0;
        int enough = LETTERS - 1;
        for (int step = 0; step < LETTERS && least < enough; step++) {
            int middle = (least + enough) >> 1;
            if (matches.most(town, middle) >= n) {
                enough = middle;
            } else {
                least = middle + 1;
            }
        }
        return enough;
    }

    // ---- debts

    public int owed(int i, int j) {
        return isPerson(i) && isPerson(j) ? town.debt(i, j) : BAD;
    }

    public int net(int i) {
        return isPerson(i) ? town.balance(i) + 10000 : BAD;
    }

    public int chain() {
        return debts.longestChain(town);
    }

    public int payments() {
        return debts.fewestPayments(town);
    }

    // ---- seats, letters, ledgers

    public int seats(int k) {
        if (k < -2 || k >= town.people) {
            return BAD;
        }
        table.plan(town);
        if (k == -1) {
            return table.fewestQuarrels();
        }
        return k == -2 ? table.waysOfFewest() : table.sitterAt(k);
    }

    public int bestSwap(int what) {
        if (what < 0 || what > 1) {
            return BAD;
        }
        int most = lineNow().countFull();
        int best = NONE;
        int used = town.firstLetters();
        for (int x = 0; x < LETTERS; x++) {
            for (int y = x + 1; y < LETTERS; y++) {
                if (holds(used, x) && holds(used, y)) {
                    int full = line.countFullIfExchanged(x, y);
                    if (full > most) {
                        most = full;
                        best = LETTERS * x + y;
                    }
                }
            }
        }
        return best == NONE || what == 0 ? best : most;
    }

    public int enter(int x, int got) {
        if (!isLetter(x) || got < 0 || got > MOST_WANTED) {
            return BAD;
        }
        return ledger.add(x, got) ? ledger.rows : OVER;
    }

    public int close() {
        int had = ledger.rows;
        ledger.rows = 0;
        return had;
    }

    public int fits() {
        return ledger.countWays(lineNow());
    }

    public int sure(int row) {
        if (row < 0 || row >= ledger.rows) {
            return BAD;
        }
        return ledger.countWays(lineNow()) == 0 ? NONE : ledger.onlyPerson(row, line);
    }

    public int year(int z, int what) {
        if (z < 0 || z > LAST_DRAW || what < 0 || what > 1) {
            return BAD;
        }
        lineNow();
        line.town.drawFirstLetters(z);
        line.sort();
        return what == 0 ? line.countFull() : line.town.countOffice();
    }

    public int keep() {
        if (kept.isFull()) {
            return OVER;
        }
        kept.push(town);
        return kept.held;
    }

    public int back() {
        if (!kept.popInto(town)) {
            return NO;
        }
        undoable.held = 0;
        return kept.held;
    }

    public int count(int what) {
        switch (what) {
            case 0: return town.people;
            case 1: return town.goods;
            case 2: return town.reach;
            case 3: return town.cost;
            case 4: return wordSize;
            case 5: return town.countWed();
            case 6: return ledger.rows;
            case 7: return undoable.held;
            case 8: return kept.held;
            case 9: return page.length;
            case 10: return lineNow().countFull();
            default: return BAD;
        }
    }

    // ---- what the calls share

    private boolean isPerson(int i) {
        return i >= 0 && i < town.people;
    }

    private boolean areTwo(int i, int k) {
        return isPerson(i) && isPerson(k) && i != k;
    }

    private static boolean isLetter(int x) {
        return x >= 0 && x < LETTERS;
    }

    private static boolean holds(int set, int member) {
        return ((set >> member) & 1) == 1;
    }

    private Line lineNow() {
        line.load(town);
        return line;
    }

    private int priceOfWord(int i) {
        int unlike = 0;
        for (int k = 0; k < LONGEST; k++) {
            int told = k < wordSize ? word[k] : NONE;
            if (told != town.letterOf(i, k)) {
                unlike++;
            }
        }
        return unlike * town.cost;
    }

    /** The LETTER of lowest RANK that alone, as a NAME, gives the told RIGHTS; NONE. */
    private int firstWithRights(int i, int rights, int j, int k) {
        lineNow();
        for (int r = 0; r < LETTERS; r++) {
            int x = town.order[r];
            boolean office = (rights & 1) == 0 || town.isVowel(x);
            boolean ahead = (rights & 2) == 0 || i != j && line.isAhead(j, i, town.keyOfOne(x));
            boolean near = (rights & 4) == 0 || town.suits(x, town.first(k), town.reach);
            if (office && ahead && near) {
                return x;
            }
        }
        return NONE;
    }

    /** The town: what a TEXT tells of it, and what has been made of it since. */
    private static final class Town {
        int people;
        int goods;
        int reach;
        int cost;
        int vowels;
        final int[] sizes = new int[PEOPLE];
        final int[] names = new int[PEOPLE * LONGEST];
        final int[] wants = new int[PEOPLE];
        final int[] coins = new int[PEOPLE];
        final int[] spouses = new int[PEOPLE];
        final int[] renamed = new int[PEOPLE];
        final int[] owing = new int[PEOPLE * PEOPLE];
        final int[] ranks = new int[LETTERS];
        final int[] order = new int[LETTERS];
        final int[] enemies = new int[LETTERS];

        /** A town of nobody, with all that holds where a TEXT tells nothing else. */
        void clear() {
            people = 0;
            goods = 20;
            reach = 3;
            cost = 1;
            vowels = (1 << ('a' - 'a')) | (1 << ('e' - 'a')) | (1 << ('i' - 'a'))
                | (1 << ('o' - 'a')) | (1 << ('u' - 'a'));
            for (int i = 0; i < PEOPLE; i++) {
                spouses[i] = NONE;
                renamed[i] = 0;
            }
            for (int k = 0; k < PEOPLE * PEOPLE; k++) {
                owing[k] = 0;
            }
            for (int x = 0; x < LETTERS; x++) {
                enemies[x] = 0;
                ranks[x] = x;
                order[x] = x;
            }
        }

        void copyFrom(Town other) {
            people = other.people;
            goods = other.goods;
            reach = other.reach;
            cost = other.cost;
            vowels = other.vowels;
            System.arraycopy(other.sizes, 0, sizes, 0, PEOPLE);
            System.arraycopy(other.names, 0, names, 0, PEOPLE * LONGEST);
            System.arraycopy(other.wants, 0, wants, 0, PEOPLE);
            System.arraycopy(other.coins, 0, coins, 0, PEOPLE);
            System.arraycopy(other.spouses, 0, spouses, 0, PEOPLE);
            System.arraycopy(other.renamed, 0, renamed, 0, PEOPLE);
            System.arraycopy(other.owing, 0, owing, 0, PEOPLE * PEOPLE);
            System.arraycopy(other.ranks, 0, ranks, 0, LETTERS);
            System.arraycopy(other.order, 0, order, 0, LETTERS);
            System.arraycopy(other.enemies, 0, enemies, 0, LETTERS);
        }

        boolean settle(int[] name, int size, int wanted, int had) {
            if (people >= PEOPLE) {
                return false;
            }
            giveName(people, name, size);
            wants[people] = wanted;
            coins[people] = had;
            people++;
            return true;
        }

        void giveName(int i, int[] name, int size) {
            sizes[i] = size;
            for (int k = 0; k < size && k < LONGEST; k++) {
                names[i * LONGEST + k] = name[k];
            }
        }

        /** These LETTERS come first, the others behind them as usual. */
        void putFirst(int[] leaders, int size) {
            int set = 0;
            for (int k = 0; k < size; k++) {
                place(leaders[k], k);
                set |= 1 << leaders[k];
            }
            int next = size;
            for (int x = 0; x < LETTERS && next < LETTERS; x++) {
                if (!holds(set, x)) {
                    place(x, next);
                    next++;
                }
            }
        }

        void place(int x, int rank) {
            ranks[x] = rank;
            order[rank] = x;
        }

        void exchange(int x, int y) {
            int rank = ranks[x];
            place(x, ranks[y]);
            place(y, rank);
        }

        void setEnemies(int x, int y) {
            enemies[x] |= 1 << y;
            enemies[y] |= 1 << x;
        }

        boolean areEnemies(int x, int y) {
            return holds(enemies[x], y);
        }

        boolean isVowel(int x) {
            return holds(vowels, x);
        }

        boolean isNameless(int i) {
            return sizes[i] == 0;
        }

        /** A LETTER of a NAME; NONE behind its end. */
        int letterOf(int i, int k) {
            return k < sizes[i] && k < LONGEST ? names[i * LONGEST + k] : NONE;
        }

        int first(int i) {
            return letterOf(i, 0);
        }

        void setFirst(int i, int x) {
            if (!isNameless(i)) {
                names[i * LONGEST] = x;
            }
        }

        /** The set of all LETTERS that are somebody's first one. */
        int firstLetters() {
            int set = 0;
            for (int i = 0; i < people; i++) {
                set |= isNameless(i) ? 0 : 1 << first(i);
            }
            return set;
        }

        /** A number that is the lower, the further ahead the NAME is; NAMELESS ones highest. */
        int keyOf(int i) {
            if (isNameless(i)) {
                return Line.BEHIND_ALL;
            }
            int key = 0;
            for (int k = 0; k < LONGEST; k++) {
                int x = letterOf(i, k);
                key = key * Line.BASE + (x == NONE ? 0 : ranks[x] + 1);
            }
            return key;
        }

        /** The key of a NAME of one LETTER. */
        int keyOfOne(int x) {
            return (ranks[x] + 1) * Line.FIRST_WEIGHT;
        }

        boolean holdsOffice(int i) {
            return isNameless(i) || isVowel(first(i));
        }

        int countOffice() {
            int n = 0;
            for (int i = 0; i < people; i++) {
                n += holdsOffice(i) ? 1 : 0;
            }
            return n;
        }

        /** Whether two first LETTERS can go together by a law; one that is NONE always can. */
        boolean suits(int x, int y, int law) {
            if (x == NONE || y == NONE) {
                return true;
            }
            return Math.abs(ranks[x] - ranks[y]) <= law && !areEnemies(x, y);
        }

        boolean mayWed(int i, int k, int law) {
            return spouses[i] == NONE && spouses[k] == NONE && suits(first(i), first(k), law);
        }

        int countWed() {
            int n = 0;
            for (int i = 0; i < people; i++) {
                n += spouses[i] == NONE ? 0 : 1;
            }
            return n;
        }

        boolean mayLend(int i, int j) {
            return isNameless(i) || isNameless(j) || ranks[first(i)] < ranks[first(j)];
        }

        void pay(int from, int to, int n) {
            coins[from] -= n;
            coins[to] += n;
        }

        /** What j owes i. */
        int debt(int i, int j) {
            return owing[i * PEOPLE + j];
        }

        void setDebt(int i, int j, int n) {
            owing[i * PEOPLE + j] = n;
        }

        int balance(int i) {
            int sum = 0;
            for (int j = 0; j < people; j++) {
                sum += debt(i, j) - debt(j, i);
            }
            return sum;
        }

        boolean quarrelAtTable(int i, int k) {
            return !isNameless(i) && !isNameless(k) && areEnemies(first(i), first(k));
        }

        void drawFirstLetters(int z) {
            for (int i = 0; i < people; i++) {
                // Squares of such numbers need more room than an int has.
                long x = 7919L * z + 6151L * i + 1;
                setFirst(i, (int) (x * x % 65521 % LETTERS));
            }
        }
    }

    /** THE TEXT, and the reading of it. */
    private static final class Page {
        static final int END = -1;
        static final int MOST_QUARRELS = 6;

        final int[] signs = new int[TEXT];
        final int[] name = new int[LONGEST];
        int length;
        int at;
        int quarrelsRead;

        boolean add(int sign) {
            if (length >= TEXT) {
                return false;
            }
            signs[length] = sign;
            length++;
            return true;
        }

        /** Makes the town that THE TEXT tells: the FAULT, or NONE. */
        int readInto(Town t) {
            t.clear();
            at = 0;
            quarrelsRead = 0;
            // Each ITEM that is read is a sign at least, so there are no more than signs.
            for (int item = 0; item < TEXT && at < length; item++) {
                int start = at;
                if (!readItem(t)) {
                    return start;
                }
            }
            return NONE;
        }

        private boolean readItem(Town t) {
            int kind = sign();
            at++;
            switch (kind) {
                case 'n': return readPerson(t);
                case 'g': return readGoods(t);
                case 'w': return readReach(t);
                case 'c': return readCost(t);
                case 'o': return readOrder(t);
                case 'v': return readVowels(t);
                case 'q': return readQuarrel(t);
                default: return false;
            }
        }

        private boolean readPerson(Town t) {
            int size = readName();
            if (!passes(',')) {
                return false;
            }
            int wanted = readNumber(MOST_WANTED);
            if (wanted == BAD || !passes(',')) {
                return false;
            }
            int had = readNumber(99);
            return had != BAD && passes(';') && t.settle(name, size, wanted, had);
        }

        private boolean readGoods(Town t) {
            int n = readNumber(99);
            t.goods = n;
            return n != BAD && passes(';');
        }

        private boolean readReach(Town t) {
            int n = readNumber(LETTERS - 1);
            t.reach = n;
            return n != BAD && passes(';');
        }

        private boolean readCost(Town t) {
            int n = readNumber(9);
            t.cost = n;
            return n != BAD && passes(';');
        }

        private boolean readOrder(Town t) {
            int size = readName();
            if (size == 0 || Integer.bitCount(lettersRead(size)) != size || !passes(';')) {
                return false;
            }
            t.putFirst(name, size);
            return true;
        }

        private boolean readVowels(Town t) {
            int size = readName();
            t.vowels = lettersRead(size);
            return size > 0 && passes(';');
        }

        private boolean readQuarrel(Town t) {
            int size = readName();
            if (size != 2 || quarrelsRead >= MOST_QUARRELS || !passes(';')) {
                return false;
            }
            quarrelsRead++;
            t.setEnemies(name[0], name[1]);
            return true;
        }

        private int sign() {
            return at < length ? signs[at] : END;
        }

        private boolean passes(int wanted) {
            if (sign() != wanted) {
                return false;
            }
            at++;
            return true;
        }

        /** LETTERS, as many as there are and as a NAME can have: how many. */
        private int readName() {
            int size = 0;
            while (size < LONGEST && sign() >= 'a' && sign() <= 'z') {
                name[size] = sign() - 'a';
                size++;
                at++;
            }
            return size;
        }

        private int lettersRead(int size) {
            int set = 0;
            for (int k = 0; k < size; k++) {
                set |= 1 << name[k];
            }
            return set;
        }

        /** A number of one or two figures, no greater than told; BAD. */
        private int readNumber(int most) {
            if (!atFigure()) {
                return BAD;
            }
            int n = sign() - '0';
            at++;
            if (atFigure()) {
                n = n * 10 + sign() - '0';
                at++;
            }
            return n <= most ? n : BAD;
        }

        private boolean atFigure() {
            return sign() >= '0' && sign() <= '9';
        }
    }

    /** Towns that have been: the latest ones, as many as there is room for. */
    private static final class Memory {
        final Town[] slots;
        int held;

        Memory(int room) {
            slots = new Town[room < 1 ? 1 : room];
            for (int k = 0; k < slots.length; k++) {
                slots[k] = new Town();
            }
        }

        boolean isFull() {
            return held >= slots.length;
        }

        void push(Town t) {
            if (isFull()) {
                dropOldest();
            }
            slots[held].copyFrom(t);
            held++;
        }

        boolean popInto(Town t) {
            if (held <= 0) {
                return false;
            }
            held--;
            t.copyFrom(slots[held]);
            return true;
        }

        private void dropOldest() {
            Town oldest = slots[0];
            for (int k = 1; k < slots.length; k++) {
                slots[k - 1] = slots[k];
            }
            slots[slots.length - 1] = oldest;
            held = slots.length - 1;
        }
    }

    /** The line in which all stand of a morning, in a copy of the town that can be tried with. */
    private static final class Line {
        static final int BASE = LETTERS + 1;
        static final int FIRST_WEIGHT = BASE * BASE * BASE * BASE * BASE;
        static final int BEHIND_ALL = FIRST_WEIGHT * BASE;

        final int[] keys = new int[PEOPLE];
        final Town town = new Town();

        void load(Town t) {
            town.copyFrom(t);
            sort();
        }

        /** Makes the keys by NAMES and THE ALPHABET as they are in the copy. */
        void sort() {
            for (int i = 0; i < town.people; i++) {
                keys[i] = town.keyOf(i);
            }
        }

        /** Whether PERSON i, if his NAME had this key, would be ahead of PERSON j. */
        boolean isAhead(int j, int i, int key) {
            return key < keys[j] || key == keys[j] && i < j;
        }

        int placeOf(int i) {
            int n = 0;
            for (int j = 0; j < town.people; j++) {
                n += j != i && !isAhead(j, i, keys[i]) ? 1 : 0;
            }
            return n;
        }

        /** What PERSON i would GET, if his NAME had this key. */
        int getsBy(int i, int key) {
            int left = town.goods;
            for (int j = 0; j < town.people; j++) {
                if (j != i && !isAhead(j, i, key)) {
                    left -= town.wants[j];
                }
            }
            return Math.max(0, Math.min(left, town.wants[i]));
        }

        int getsNow(int i) {
            return getsBy(i, keys[i]);
        }

        int countFull() {
            int n = 0;
            for (int i = 0; i < town.people; i++) {
                n += getsNow(i) == town.wants[i] ? 1 : 0;
            }
            return n;
        }

        /** How many are FULL if two LETTERS change places; the copy is as before then. */
        int countFullIfExchanged(int x, int y) {
            town.exchange(x, y);
            sort();
            int full = countFull();
            town.exchange(x, y);
            sort();
            return full;
        }

        int keyWithFirst(int i, int x) {
            return keys[i] % FIRST_WEIGHT + town.keyOfOne(x);
        }

        /** What PERSON i GETS by another first LETTER, less what that costs. */
        int gainBy(int i, int x) {
            int got = getsBy(i, keyWithFirst(i, x));
            return x == town.first(i) ? got : got - town.cost;
        }

        int bestFirst(int i) {
            int best = town.order[0];
            int most = gainBy(i, best);
            for (int r = 1; r < LETTERS; r++) {
                int x = town.order[r];
                int gain = gainBy(i, x);
                if (gain > most) {
                    most = gain;
                    best = x;
                }
            }
            return best;
        }

        /** A round in which all have their best first LETTERS: whether one is new. */
        boolean allChange() {
            boolean changed = false;
            for (int i = 0; i < town.people; i++) {
                if (!town.isNameless(i)) {
                    int best = bestFirst(i);
                    changed = changed || best != town.first(i);
                    town.setFirst(i, best);
                    keys[i] = keyWithFirst(i, best);
                }
            }
            return changed;
        }
    }

    /** Weddings at once. A set of PERSONS is a number, PERSON i its bit i. */
    private static final class Matches {
        final int[] willing = new int[PEOPLE];
        final int[] best = new int[SETS];

        /** The most weddings at once by a law. */
        int most(Town t, int law) {
            for (int i = 0; i < t.people; i++) {
                willing[i] = 0;
                for (int k = 0; k < t.people; k++) {
                    willing[i] |= i != k && t.mayWed(i, k, law) ? 1 << k : 0;
                }
            }
            int all = (1 << t.people) - 1;
            best[0] = 0;
            for (int set = 1; set <= all && set < SETS; set++) {
                best[set] = bestWithin(set);
            }
            return best[all];
        }

        private int bestWithin(int set) {
            int i = lowest(set);
            int rest = set & (set - 1);
            int most = best[rest];
            for (int k = i + 1; k < PEOPLE; k++) {
                if (holds(rest & willing[i], k)) {
                    most = Math.max(most, 1 + best[rest ^ (1 << k)]);
                }
            }
            return most;
        }

        private static int lowest(int set) {
            int i = 0;
            while (i < PEOPLE - 1 && !holds(set, i)) {
                i++;
            }
            return i;
        }

        /** Whom a PERSON weds in the first way of most weddings, behind most(); NONE. */
        int partnerOf(int person, int people) {
            int set = (1 << people) - 1;
            for (int step = 0; step < PEOPLE && set != 0; step++) {
                int i = lowest(set);
                int k = choiceOf(i, set);
                if (i == person) {
                    return k;
                }
                if (k == person) {
                    return i;
                }
                set &= set - 1;
                if (k != NONE) {
                    set ^= 1 << k;
                }
            }
            return NONE;
        }

        private int choiceOf(int i, int set) {
            int rest = set & (set - 1);
            for (int k = i + 1; k < PEOPLE; k++) {
                if (holds(rest & willing[i], k) && 1 + best[rest ^ (1 << k)] == best[set]) {
                    return k;
                }
            }
            return NONE;
        }
    }

    /** Chains of debts, and payments that clear them. */
    private static final class Debts {
        final int[] behind = new int[PEOPLE];
        final int[] sums = new int[SETS];
        final int[] groups = new int[SETS];

        int longestChain(Town t) {
            for (int i = 0; i < t.people; i++) {
                behind[i] = 0;
            }
            // A row without a round in it has fewer debts than there are PERSONS: what
            // still grows behind so many steps goes round.
            boolean grows = true;
            for (int step = 0; step < t.people && grows; step++) {
                grows = stretch(t);
            }
            if (grows) {
                return NONE;
            }
            int longest = 0;
            for (int i = 0; i < t.people; i++) {
                longest = Math.max(longest, behind[i]);
            }
            return longest;
        }

        /** Makes rows longer by those that begin at the next ones: whether one grew. */
        private boolean stretch(Town t) {
            boolean grew = false;
            for (int i = 0; i < t.people; i++) {
                for (int j = 0; j < t.people; j++) {
                    if (t.debt(j, i) > 0 && behind[i] < behind[j] + 1) {
                        behind[i] = behind[j] + 1;
                        grew = true;
                    }
                }
            }
            return grew;
        }

        /**
         * All, less the most groups whose NETS clear each other: a group needs one payment
         * less than it has PERSONS, and whoever payments join is such a group.
         */
        int fewestPayments(Town t) {
            int all = (1 << t.people) - 1;
            sums[0] = 0;
            groups[0] = 0;
            for (int i = 0; i < t.people; i++) {
                int balance = t.balance(i);
                int bit = 1 << i;
                for (int set = bit; set < 2 * bit && set < SETS; set++) {
                    sums[set] = sums[set ^ bit] + balance;
                }
            }
            for (int set = 1; set <= all && set < SETS; set++) {
                groups[set] = mostGroups(set);
            }
            return t.people - groups[all];
        }

        private int mostGroups(int set) {
            int most = 0;
            for (int i = 0; i < PEOPLE; i++) {
                if (holds(set, i)) {
                    most = Math.max(most, groups[set ^ (1 << i)]);
                }
            }
            return sums[set] == 0 ? most + 1 : most;
        }
    }

    /** Seats round a table: for each set that sits and who sits last, the best of what can follow. */
    private static final class Table {
        final int[] fewest = new int[SETS * PEOPLE];
        final int[] ways = new int[SETS * PEOPLE];
        // Whom each PERSON quarrels with at table, as a set.
        final int[] foes = new int[PEOPLE];
        int people;

        void plan(Town t) {
            people = t.people;
            for (int i = 0; i < people; i++) {
                foes[i] = 0;
                for (int k = 0; k < people; k++) {
                    foes[i] |= i != k && t.quarrelAtTable(i, k) ? 1 << k : 0;
                }
            }
            int all = (1 << people) - 1;
            for (int last = 0; last < people; last++) {
                fewest[all * PEOPLE + last] = closing(last);
                ways[all * PEOPLE + last] = 1;
            }
            // PERSON 0 sits in each set: only the odd ones are.
            for (int set = all - 2; set > 0; set -= 2) {
                for (int last = 0; last < people; last++) {
                    if (holds(set, last)) {
                        weigh(set, last);
                    }
                }
            }
        }

        private int between(int i, int k) {
            return holds(foes[i], k) ? 1 : 0;
        }

        /** Two alone are beside each other once: the round adds nothing to them. */
        private int closing(int last) {
            return people > 2 ? between(last, 0) : 0;
        }

        private int quarrelsBy(int set, int last, int next) {
            return between(last, next) + fewest[(set | (1 << next)) * PEOPLE + next];
        }

        private void weigh(int set, int last) {
            int least = PEOPLE + 1;
            int n = 0;
            for (int next = 1; next < people; next++) {
                if (!holds(set, next)) {
                    int quarrels = quarrelsBy(set, last, next);
                    if (quarrels < least) {
                        least = quarrels;
                        n = 0;
                    }
                    if (quarrels == least) {
                        n += ways[(set | (1 << next)) * PEOPLE + next];
                    }
                }
            }
            fewest[set * PEOPLE + last] = least;
            ways[set * PEOPLE + last] = n;
        }

        int fewestQuarrels() {
            return fewest[PEOPLE];
        }

        int waysOfFewest() {
            return ways[PEOPLE];
        }

        int sitterAt(int place) {
            int set = 1;
            int last = 0;
            for (int k = 0; k < place && k < PEOPLE; k++) {
                last = nextBehind(set, last);
                set |= 1 << last;
            }
            return last;
        }

        private int nextBehind(int set, int last) {
            for (int next = 1; next < people; next++) {
                if (!holds(set, next) && quarrelsBy(set, last, next) == fewest[set * PEOPLE + last]) {
                    return next;
                }
            }
            return 0;
        }
    }

    /** THE LEDGER: initials, and what each of them got. */
    private static final class Ledger {
        static final int MOST_ROWS = 8;

        final int[] initials = new int[MOST_ROWS];
        final int[] amounts = new int[MOST_ROWS];
        int rows;

        boolean add(int x, int got) {
            if (rows >= MOST_ROWS) {
                return false;
            }
            initials[rows] = x;
            amounts[rows] = got;
            rows++;
            return true;
        }

        private boolean canBe(int row, int i, Line line) {
            return line.town.first(i) == initials[row] && line.getsNow(i) == amounts[row];
        }

        private int candidates(int row, Line line) {
            int n = 0;
            for (int i = 0; i < line.town.people; i++) {
                n += canBe(row, i, line) ? 1 : 0;
            }
            return n;
        }

        private int alikeAbove(int row) {
            int n = 0;
            for (int k = 0; k < row; k++) {
                n += initials[k] == initials[row] && amounts[k] == amounts[row] ? 1 : 0;
            }
            return n;
        }

        /** A PERSON can be of rows of one kind alone: only alike rows take each other's. */
        int countWays(Line line) {
            int ways = 1;
            for (int row = 0; row < rows; row++) {
                ways *= Math.max(0, candidates(row, line) - alikeAbove(row));
            }
            return ways;
        }

        /** The only PERSON of whom a row can be; NONE. */
        int onlyPerson(int row, Line line) {
            if (candidates(row, line) != 1) {
                return NONE;
            }
            for (int i = 0; i < line.town.people; i++) {
                if (canBe(row, i, line)) {
                    return i;
                }
            }
            return NONE;
        }
    }
}
