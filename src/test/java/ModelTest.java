import java.util.ArrayList;
import java.util.Arrays;
import java.util.Collections;
import java.util.HashMap;
import java.util.List;
import java.util.Map;
import java.util.Random;
import java.util.regex.Matcher;
import java.util.regex.Pattern;

/** Long runs of drawn calls, beside a second model that sorts, serves and tries out all ways by hand. */
public final class ModelTest {
    static final int BAD = -1, NO = -2, OVER = -3, NONE = -4;
    static final String USUAL = "abcdefghijklmnopqrstuvwxyz";

    static final class Person implements Cloneable {
        String name;
        int wants, coins, wed = NONE;
        boolean renamed;
        Map<Integer, Integer> owedBy = new HashMap<>();

        Person copy() {
            Person p = new Person();
            p.name = name;
            p.wants = wants;
            p.coins = coins;
            p.wed = wed;
            p.renamed = renamed;
            p.owedBy.putAll(owedBy);
            return p;
        }
    }

    static final class State {
        List<Person> all = new ArrayList<>();
        int goods = 20, reach = 3, cost = 1;
        String alphabet = USUAL, vowels = "aeiou";
        List<String> quarrels = new ArrayList<>();

        State copy() {
            State s = new State();
            for (Person p : all) {
                s.all.add(p.copy());
            }
            s.goods = goods;
            s.reach = reach;
            s.cost = cost;
            s.alphabet = alphabet;
            s.vowels = vowels;
            s.quarrels.addAll(quarrels);
            return s;
        }

        int compare(int i, int k) {
            String a = all.get(i).name, b = all.get(k).name;
            if (a.isEmpty() != b.isEmpty()) {
                return a.isEmpty() ? 1 : -1;
            }
            for (int c = 0; c < Math.min(a.length(), b.length()); c++) {
                int d = alphabet.indexOf(a.charAt(c)) - alphabet.indexOf(b.charAt(c));
                if (d != 0) {
                    return d;
                }
            }
            return a.length() != b.length() ? a.length() - b.length() : i - k;
        }

        List<Integer> order() {
            List<Integer> o = new ArrayList<>();
            for (int i = 0; i < all.size(); i++) {
                o.add(i);
            }
            Collections.sort(o, this::compare);
            return o;
        }

        int[] morning() {
            int[] gets = new int[all.size()];
            int left = goods;
            for (int i : order()) {
                gets[i] = Math.min(left, all.get(i).wants);
                left -= gets[i];
            }
            return gets;
        }

        int full() {
            int[] gets = morning();
            int n = 0;
            for (int i = 0; i < all.size(); i++) {
                if (gets[i] == all.get(i).wants) {
                    n++;
                }
            }
            return n;
        }

        boolean office(int i) {
            String n = all.get(i).name;
            return n.isEmpty() || vowels.indexOf(n.charAt(0)) >= 0;
        }

        boolean quarrel(char x, char y) {
            return quarrels.contains("" + x + y) || quarrels.contains("" + y + x);
        }

        boolean mayWed(int i, int k, int law) {
            Person a = all.get(i), b = all.get(k);
            if (a.wed != NONE || b.wed != NONE) {
                return false;
            }
            if (a.name.isEmpty() || b.name.isEmpty()) {
                return true;
            }
            char x = a.name.charAt(0), y = b.name.charAt(0);
            return Math.abs(alphabet.indexOf(x) - alphabet.indexOf(y)) <= law && !quarrel(x, y);
        }

        int owes(int debtor, int lender) {
            return all.get(lender).owedBy.getOrDefault(debtor, 0);
        }

        int net(int i) {
            int n = 0;
            for (int j = 0; j < all.size(); j++) {
                n += owes(j, i) - owes(i, j);
            }
            return n;
        }

        String exchanged(char x, char y) {
            return alphabet.replace(x, '#').replace(y, x).replace('#', y);
        }

        void first(int i, char x) {
            Person p = all.get(i);
            p.name = x + p.name.substring(1);
        }

        /** The best first LETTER and what is gained by it. */
        int[] change(int i) {
            char own = all.get(i).name.charAt(0);
            int[] best = null;
            for (char x : alphabet.toCharArray()) {
                State s = copy();
                s.first(i, x);
                int gain = s.morning()[i] - (x == own ? 0 : cost);
                if (best == null || gain > best[1]) {
                    best = new int[] {x - 'a', gain};
                }
            }
            return best;
        }

        boolean round() {
            boolean changed = false;
            for (int i = 0; i < all.size(); i++) {
                if (!all.get(i).name.isEmpty()) {
                    char x = (char) ('a' + change(i)[0]);
                    changed |= x != all.get(i).name.charAt(0);
                    first(i, x);
                }
            }
            return changed;
        }
    }

    static final Pattern ITEM = Pattern.compile(
        "n([a-z]{0,6}),([0-9]{1,2}),([0-9]{1,2});|([gwc])([0-9]{1,2});|([ov])([a-z]{1,6});|q([a-z])([a-z]);");

    static final class Model {
        State s = new State();
        String text = "", word = "";
        List<int[]> ledger = new ArrayList<>();
        List<State> past = new ArrayList<>(), kept = new ArrayList<>();

        Model() {
            text = "nadam,5,9;nquinn,9,5;nzoe,8,30;n,3,0;qaq;";
            lay();
            text = "";
        }

        /** The FAULT of THE TEXT, or NONE with the town told. */
        int read(State t) {
            int at = 0;
            while (at < text.length()) {
                Matcher m = ITEM.matcher(text).region(at, text.length());
                if (!m.lookingAt() || !take(m, t)) {
                    return at;
                }
                at = m.end();
            }
            return NONE;
        }

        boolean take(Matcher m, State t) {
            if (m.group(2) != null) {
                Person p = new Person();
                p.name = m.group(1);
                p.wants = Integer.parseInt(m.group(2));
                p.coins = Integer.parseInt(m.group(3));
                t.all.add(p);
                return p.wants <= 9 && t.all.size() <= 8;
            }
            if (m.group(4) != null) {
                int n = Integer.parseInt(m.group(5));
                switch (m.group(4)) {
                    case "g": t.goods = n; return true;
                    case "w": t.reach = n; return n <= 25;
                    default: t.cost = n; return n <= 9;
                }
            }
            if ("v".equals(m.group(6))) {
                t.vowels = m.group(7);
                return true;
            }
            if ("o".equals(m.group(6))) {
                t.alphabet = m.group(7);
                for (char x : USUAL.toCharArray()) {
                    if (m.group(7).indexOf(x) < 0) {
                        t.alphabet += x;
                    }
                }
                return t.alphabet.length() == 26;
            }
            t.quarrels.add(m.group(8) + m.group(9));
            return t.quarrels.size() <= 6;
        }

        int lay() {
            State t = new State();
            if (read(t) != NONE || t.all.isEmpty()) {
                return NO;
            }
            s = t;
            word = "";
            ledger.clear();
            past.clear();
            kept.clear();
            return s.all.size();
        }

        boolean none(int i) {
            return i < 0 || i >= s.all.size();
        }

        boolean noLetter(int x) {
            return x < 0 || x > 25;
        }

        void remember() {
            past.add(s.copy());
            if (past.size() > 8) {
                past.remove(0);
            }
        }

        int write(int c) {
            if (c < 32 || c > 126) {
                return BAD;
            }
            if (text.length() == 200) {
                return OVER;
            }
            text += (char) c;
            return text.length();
        }

        int person(int i, int what) {
            if (none(i) || what < 0 || what > 7) {
                return BAD;
            }
            Person p = s.all.get(i);
            int[] a = {p.name.length(), p.wants, p.coins, p.wed, p.renamed ? 1 : 0, s.order().indexOf(i),
                s.morning()[i], s.office(i) ? 1 : 0};
            return a[what];
        }

        int letter(int i, int k) {
            if (none(i) || k < 0) {
                return BAD;
            }
            String n = s.all.get(i).name;
            return k < n.length() ? n.charAt(k) - 'a' : NONE;
        }

        int alphabet(int x, int what) {
            if (noLetter(x) || what < 0 || what > 2) {
                return BAD;
            }
            char c = (char) ('a' + x);
            return what == 0 ? s.alphabet.indexOf(c) : what == 1 ? s.alphabet.charAt(x) - 'a'
                : s.vowels.indexOf(c) >= 0 ? 1 : 0;
        }

        int quarrel(int x, int y) {
            return noLetter(x) || noLetter(y) ? BAD : s.quarrel((char) ('a' + x), (char) ('a' + y)) ? 1 : 0;
        }

        int spell(int x) {
            if (noLetter(x)) {
                return BAD;
            }
            if (word.length() == 6) {
                return OVER;
            }
            word += (char) ('a' + x);
            return word.length();
        }

        int price(int i) {
            if (none(i)) {
                return BAD;
            }
            String n = s.all.get(i).name;
            int unlike = Math.abs(n.length() - word.length());
            for (int k = 0; k < Math.min(n.length(), word.length()); k++) {
                unlike += n.charAt(k) == word.charAt(k) ? 0 : 1;
            }
            return unlike * s.cost;
        }

        int rename(int i) {
            if (none(i)) {
                return BAD;
            }
            int cost = price(i);
            if (s.all.get(i).renamed || s.all.get(i).coins < cost) {
                return NO;
            }
            remember();
            Person p = s.all.get(i);
            p.name = word;
            p.renamed = true;
            return p.coins -= cost;
        }

        int may(int i, int k) {
            return none(i) || none(k) || i == k ? BAD : s.mayWed(i, k, s.reach) ? 1 : 0;
        }

        int haveWed() {
            int n = 0;
            for (Person p : s.all) {
                n += p.wed == NONE ? 0 : 1;
            }
            return n;
        }

        int wed(int i, int k) {
            int m = may(i, k);
            if (m != 1) {
                return m == 0 ? NO : BAD;
            }
            remember();
            s.all.get(i).wed = k;
            s.all.get(k).wed = i;
            return haveWed();
        }

        int lend(int i, int j, int n) {
            if (none(i) || none(j) || i == j || n < 1 || n > 99) {
                return BAD;
            }
            String a = s.all.get(i).name, b = s.all.get(j).name;
            boolean forward = a.isEmpty() || b.isEmpty()
                || s.alphabet.indexOf(b.charAt(0)) > s.alphabet.indexOf(a.charAt(0));
            if (!forward || s.all.get(i).coins < n || s.owes(j, i) + n > 999) {
                return NO;
            }
            remember();
            s.all.get(i).coins -= n;
            s.all.get(j).coins += n;
            s.all.get(i).owedBy.put(j, s.owes(j, i) + n);
            return s.owes(j, i);
        }

        int repay(int i, int j, int n) {
            if (none(i) || none(j) || i == j || n < 1 || n > 99) {
                return BAD;
            }
            if (s.owes(j, i) < n || s.all.get(j).coins < n) {
                return NO;
            }
            remember();
            s.all.get(j).coins -= n;
            s.all.get(i).coins += n;
            s.all.get(i).owedBy.put(j, s.owes(j, i) - n);
            return s.owes(j, i);
        }

        int swap(int x, int y) {
            if (noLetter(x) || noLetter(y) || x == y) {
                return BAD;
            }
            remember();
            s.alphabet = s.exchanged((char) ('a' + x), (char) ('a' + y));
            return s.alphabet.indexOf('a' + x);
        }

        int newYear() {
            remember();
            int n = 0;
            for (Person p : s.all) {
                n += p.renamed ? 1 : 0;
                p.renamed = false;
            }
            return n;
        }

        int undo() {
            if (past.isEmpty()) {
                return NO;
            }
            s = past.remove(past.size() - 1);
            return past.size();
        }

        int change(int i, int what) {
            if (none(i) || what < 0 || what > 1) {
                return BAD;
            }
            if (s.all.get(i).name.isEmpty()) {
                return NO;
            }
            int[] c = s.change(i);
            return what == 0 ? c[0] : c[1] + 100;
        }

        int run(int i) {
            if (i < -1 || i >= s.all.size()) {
                return BAD;
            }
            List<State> rounds = new ArrayList<>();
            rounds.add(s.copy());
            int still = NONE;
            for (int r = 0; r <= 20; r++) {
                State next = rounds.get(r).copy();
                if (!next.round()) {
                    still = r;
                    break;
                }
                rounds.add(next);
            }
            if (i == -1) {
                return still;
            }
            String n = rounds.get(still == NONE ? 20 : still).all.get(i).name;
            return n.isEmpty() ? NONE : n.charAt(0) - 'a';
        }

        boolean right(State t, int i, String name, int rights, int j, int k) {
            if ((rights & 1) != 0 && s.vowels.indexOf(name.charAt(0)) < 0) {
                return false;
            }
            if ((rights & 2) != 0) {
                if (i == j) {
                    return false;
                }
                t.all.get(i).name = name;
                if (t.compare(i, j) >= 0) {
                    return false;
                }
            }
            String other = s.all.get(k).name;
            if ((rights & 4) != 0 && !other.isEmpty()) {
                char x = name.charAt(0), y = other.charAt(0);
                return Math.abs(s.alphabet.indexOf(x) - s.alphabet.indexOf(y)) <= s.reach && !s.quarrel(x, y);
            }
            return true;
        }

        int shortest(int i, int rights, int j, int k, int what) {
            if (none(i) || none(j) || none(k) || rights < 0 || rights > 7 || what < 0 || what > 3) {
                return BAD;
            }
            State t = s.copy();
            List<String> names = new ArrayList<>(List.of(""));
            for (int size = 1; size <= 3; size++) {
                List<String> longer = new ArrayList<>();
                for (String n : names) {
                    for (char x : s.alphabet.toCharArray()) {
                        longer.add(n + x);
                    }
                }
                for (String n : longer) {
                    if (right(t, i, n, rights, j, k)) {
                        return what == 0 ? size : what <= size ? n.charAt(what - 1) - 'a' : NONE;
                    }
                }
                names = longer;
            }
            return NONE;
        }

        /** All ways of weddings, the first ones first; the best so far stays. */
        void tryWeddings(int i, int[] with, int done, int law, int[][] best) {
            if (i == with.length) {
                if (best[0] == null || done > best[1][0]) {
                    best[0] = with.clone();
                    best[1] = new int[] {done};
                }
                return;
            }
            if (with[i] != NONE) {
                tryWeddings(i + 1, with, done, law, best);
                return;
            }
            for (int k = i + 1; k < with.length; k++) {
                if (with[k] == NONE && s.mayWed(i, k, law)) {
                    with[i] = k;
                    with[k] = i;
                    tryWeddings(i + 1, with, done + 1, law, best);
                    with[i] = NONE;
                    with[k] = NONE;
                }
            }
            tryWeddings(i + 1, with, done, law, best);
        }

        int[][] weddings(int law) {
            int[] with = new int[s.all.size()];
            Arrays.fill(with, NONE);
            int[][] best = new int[2][];
            tryWeddings(0, with, 0, law, best);
            return best;
        }

        int match(int i) {
            if (i < -1 || i >= s.all.size()) {
                return BAD;
            }
            int[][] best = weddings(s.reach);
            return i == -1 ? best[1][0] : best[0][i];
        }

        int wide(int n) {
            if (n < 1 || n > 4) {
                return BAD;
            }
            for (int law = 0; law <= 25; law++) {
                if (weddings(law)[1][0] >= n) {
                    return law;
                }
            }
            return NONE;
        }

        int owed(int i, int j) {
            return none(i) || none(j) ? BAD : s.owes(j, i);
        }

        int net(int i) {
            return none(i) ? BAD : s.net(i) + 10000;
        }

        /** The longest row from i on; -100 if one comes round. */
        int rowFrom(int i, List<Integer> row) {
            if (row.contains(i)) {
                return -100;
            }
            row.add(i);
            int longest = 0;
            for (int j = 0; j < s.all.size(); j++) {
                if (s.owes(i, j) > 0) {
                    int rest = rowFrom(j, row);
                    if (rest < 0) {
                        return -100;
                    }
                    longest = Math.max(longest, rest + 1);
                }
            }
            row.remove(row.size() - 1);
            return longest;
        }

        int chain() {
            int longest = 0;
            for (int i = 0; i < s.all.size(); i++) {
                int n = rowFrom(i, new ArrayList<>());
                if (n < 0) {
                    return NONE;
                }
                longest = Math.max(longest, n);
            }
            return longest;
        }

        int settle(int[] nets, int from) {
            while (from < nets.length && nets[from] == 0) {
                from++;
            }
            if (from == nets.length) {
                return 0;
            }
            int best = 100;
            for (int j = from + 1; j < nets.length; j++) {
                if ((long) nets[from] * nets[j] < 0) {
                    nets[j] += nets[from];
                    best = Math.min(best, 1 + settle(nets, from + 1));
                    nets[j] -= nets[from];
                }
            }
            return best;
        }

        int payments() {
            int[] nets = new int[s.all.size()];
            for (int i = 0; i < nets.length; i++) {
                nets[i] = s.net(i);
            }
            return settle(nets, 0);
        }

        int between(int i, int k) {
            String a = s.all.get(i).name, b = s.all.get(k).name;
            return !a.isEmpty() && !b.isEmpty() && s.quarrel(a.charAt(0), b.charAt(0)) ? 1 : 0;
        }

        /** best: the way, then how many quarrels and ways. */
        void trySeats(List<Integer> sit, int[] best, List<Integer> way) {
            int n = s.all.size();
            if (sit.size() == n) {
                int quarrels = 0;
                for (int k = 0; k + 1 < n; k++) {
                    quarrels += between(sit.get(k), sit.get(k + 1));
                }
                quarrels += n > 2 ? between(sit.get(n - 1), 0) : 0;
                if (quarrels < best[0]) {
                    best[0] = quarrels;
                    best[1] = 0;
                    way.clear();
                    way.addAll(sit);
                }
                best[1] += quarrels == best[0] ? 1 : 0;
                return;
            }
            for (int i = 1; i < n; i++) {
                if (!sit.contains(i)) {
                    sit.add(i);
                    trySeats(sit, best, way);
                    sit.remove(sit.size() - 1);
                }
            }
        }

        int seats(int k) {
            if (k < -2 || k >= s.all.size()) {
                return BAD;
            }
            int[] best = {100, 0};
            List<Integer> way = new ArrayList<>();
            trySeats(new ArrayList<>(List.of(0)), best, way);
            return k == -1 ? best[0] : k == -2 ? best[1] : way.get(k);
        }

        int bestSwap(int what) {
            if (what < 0 || what > 1) {
                return BAD;
            }
            String firsts = "";
            for (Person p : s.all) {
                firsts += p.name.isEmpty() ? "" : p.name.substring(0, 1);
            }
            int pair = NONE, most = s.full();
            for (char x = 'a'; x <= 'z'; x++) {
                for (char y = (char) (x + 1); y <= 'z'; y++) {
                    if (firsts.indexOf(x) >= 0 && firsts.indexOf(y) >= 0) {
                        State t = s.copy();
                        t.alphabet = s.exchanged(x, y);
                        if (t.full() > most) {
                            most = t.full();
                            pair = 26 * (x - 'a') + y - 'a';
                        }
                    }
                }
            }
            return pair == NONE || what == 0 ? pair : most;
        }

        int enter(int x, int got) {
            if (noLetter(x) || got < 0 || got > 9) {
                return BAD;
            }
            if (ledger.size() == 8) {
                return OVER;
            }
            ledger.add(new int[] {x, got});
            return ledger.size();
        }

        int ways(int row, List<Integer> taken, int[] gets, List<List<Integer>> found) {
            if (row == ledger.size()) {
                found.add(new ArrayList<>(taken));
                return 1;
            }
            int n = 0;
            for (int i = 0; i < s.all.size(); i++) {
                String name = s.all.get(i).name;
                if (!taken.contains(i) && !name.isEmpty() && name.charAt(0) - 'a' == ledger.get(row)[0]
                        && gets[i] == ledger.get(row)[1]) {
                    taken.add(i);
                    n += ways(row + 1, taken, gets, found);
                    taken.remove(taken.size() - 1);
                }
            }
            return n;
        }

        int fits() {
            return ways(0, new ArrayList<>(), s.morning(), new ArrayList<>());
        }

        int sure(int row) {
            if (row < 0 || row >= ledger.size()) {
                return BAD;
            }
            List<List<Integer>> found = new ArrayList<>();
            if (ways(0, new ArrayList<>(), s.morning(), found) == 0) {
                return NONE;
            }
            int who = found.get(0).get(row);
            for (List<Integer> way : found) {
                if (way.get(row) != who) {
                    return NONE;
                }
            }
            return who;
        }

        int year(int z, int what) {
            if (z < 0 || z > 9999 || what < 0 || what > 1) {
                return BAD;
            }
            State t = s.copy();
            int office = 0;
            for (int i = 0; i < t.all.size(); i++) {
                java.math.BigInteger x = java.math.BigInteger.valueOf(7919L * z + 6151L * i + 1);
                if (!t.all.get(i).name.isEmpty()) {
                    t.first(i, (char) ('a' + x.pow(2).mod(java.math.BigInteger.valueOf(65521)).intValue() % 26));
                }
                office += t.office(i) ? 1 : 0;
            }
            return what == 0 ? t.full() : office;
        }

        int keep() {
            if (kept.size() == 2) {
                return OVER;
            }
            kept.add(s.copy());
            return kept.size();
        }

        int back() {
            if (kept.isEmpty()) {
                return NO;
            }
            s = kept.remove(kept.size() - 1);
            past.clear();
            return kept.size();
        }

        int count(int what) {
            int[] a = {s.all.size(), s.goods, s.reach, s.cost, word.length(), haveWed(), ledger.size(), past.size(),
                kept.size(), text.length(), s.full()};
            return what < 0 || what >= a.length ? BAD : a[what];
        }

        int wipe() {
            int n = text.length();
            text = "";
            return n;
        }

        int unspell() {
            int n = word.length();
            word = "";
            return n;
        }

        int close() {
            int n = ledger.size();
            ledger.clear();
            return n;
        }
    }

    // ---- the runs

    static int wrong = 0;
    static long calls = 0;
    static Random draw;
    static ByInitials it;
    static Model model;
    static int run;
    static int inRun;

    static void due(String call, int got, int want) {
        calls++;
        inRun++;
        if (got != want) {
            wrong++;
            if (wrong < 40) {
                System.out.println("run " + run + ", call " + inRun + ": " + call + " answered " + got + ", due is "
                    + want + " (town " + model.text + ")");
            }
        }
    }

    static String drawName(int most, String of) {
        StringBuilder b = new StringBuilder();
        int size = draw.nextInt(most + 1);
        for (int k = 0; k < size; k++) {
            b.append(of.charAt(draw.nextInt(of.length())));
        }
        return b.toString();
    }

    static String drawText() {
        // Few LETTERS make alike NAMES, many quarrels and full mornings likely.
        String of = draw.nextInt(3) == 0 ? USUAL : USUAL.substring(0, 1 + draw.nextInt(7));
        StringBuilder b = new StringBuilder();
        int people = draw.nextInt(12) == 0 ? draw.nextInt(10) : 1 + draw.nextInt(8);
        int longest = draw.nextInt(3) == 0 ? 6 : 2;
        for (int i = 0; i < people; i++) {
            b.append('n').append(drawName(longest, of)).append(',').append(draw.nextInt(10)).append(',')
                .append(draw.nextInt(3) == 0 ? draw.nextInt(10) : draw.nextInt(100)).append(';');
        }
        if (draw.nextBoolean()) {
            b.append('g').append(draw.nextInt(draw.nextBoolean() ? 40 : 100)).append(';');
        }
        if (draw.nextBoolean()) {
            b.append('w').append(draw.nextInt(draw.nextBoolean() ? 4 : 26)).append(';');
        }
        if (draw.nextBoolean()) {
            b.append('c').append(draw.nextInt(draw.nextBoolean() ? 3 : 10)).append(';');
        }
        if (draw.nextInt(3) == 0) {
            List<Character> first = new ArrayList<>();
            for (char c : drawName(6, draw.nextBoolean() ? of : USUAL).toCharArray()) {
                if (!first.contains(c)) {
                    first.add(c);
                }
            }
            if (!first.isEmpty()) {
                b.append('o');
                first.forEach(b::append);
                b.append(';');
            }
        }
        if (draw.nextInt(3) == 0) {
            b.append('v').append(of.charAt(0)).append(drawName(5, of)).append(';');
        }
        int quarrels = draw.nextInt(20) == 0 ? 7 : draw.nextInt(7);
        for (int k = 0; k < quarrels; k++) {
            b.append('q').append(of.charAt(draw.nextInt(of.length()))).append(of.charAt(draw.nextInt(of.length())))
                .append(';');
        }
        return b.toString();
    }

    static String spoilt(String text) {
        if (text.isEmpty()) {
            return text;
        }
        String signs = ";,0123456789anqgwcov zA";
        StringBuilder b = new StringBuilder(text);
        int at = draw.nextInt(b.length());
        char c = signs.charAt(draw.nextInt(signs.length()));
        switch (draw.nextInt(4)) {
            case 0: b.setCharAt(at, c); break;
            case 1: b.insert(at, c); break;
            case 2: b.deleteCharAt(at); break;
            default: b.setLength(at);
        }
        return b.toString();
    }

    static void writeAll(String text) {
        for (char c : text.toCharArray()) {
            due("write(" + (int) c + ")", it.write(c), model.write(c));
        }
    }

    static int person() {
        return draw.nextInt(25) == 0 ? draw.nextInt(12) - 2 : draw.nextInt(model.s.all.size());
    }

    static int letter() {
        int k = draw.nextInt(30);
        if (k == 0) {
            return draw.nextInt(40) - 5;
        }
        String n = model.s.all.get(draw.nextInt(model.s.all.size())).name;
        return k < 22 && !n.isEmpty() ? n.charAt(draw.nextInt(n.length())) - 'a' : draw.nextInt(26);
    }

    static int coins() {
        int k = draw.nextInt(20);
        return k == 0 ? draw.nextInt(120) - 10 : k < 8 ? 1 + draw.nextInt(99) : 1 + draw.nextInt(6);
    }

    static void drawCall(int kind) {
        int i = person(), j = person(), k = person(), x = letter(), y = letter(), n = coins();
        int what = draw.nextInt(9) - 1;
        switch (kind) {
            case 0: due("fault()", it.fault(), model.read(new State())); break;
            case 1: due("person(" + i + "," + what + ")", it.person(i, what), model.person(i, what)); break;
            case 2: due("letter(" + i + "," + what + ")", it.letter(i, what), model.letter(i, what)); break;
            case 3: due("alphabet(" + x + "," + what % 3 + ")", it.alphabet(x, what % 3), model.alphabet(x, what % 3));
                break;
            case 4: due("quarrel(" + x + "," + y + ")", it.quarrel(x, y), model.quarrel(x, y)); break;
            case 5: due("spell(" + x + ")", it.spell(x), model.spell(x)); break;
            case 6: due("unspell()", it.unspell(), model.unspell()); break;
            case 7: due("price(" + i + ")", it.price(i), model.price(i)); break;
            case 8: due("rename(" + i + ")", it.rename(i), model.rename(i)); break;
            case 9: due("may(" + i + "," + k + ")", it.may(i, k), model.may(i, k)); break;
            case 10: due("wed(" + i + "," + k + ")", it.wed(i, k), model.wed(i, k)); break;
            case 11: due("lend(" + i + "," + j + "," + n + ")", it.lend(i, j, n), model.lend(i, j, n)); break;
            case 12: due("repay(" + i + "," + j + "," + n + ")", it.repay(i, j, n), model.repay(i, j, n)); break;
            case 13: due("swap(" + x + "," + y + ")", it.swap(x, y), model.swap(x, y)); break;
            case 14: due("newYear()", it.newYear(), model.newYear()); break;
            case 15: due("undo()", it.undo(), model.undo()); break;
            case 16: due("change(" + i + "," + what / 3 + ")", it.change(i, what / 3), model.change(i, what / 3)); break;
            case 17: due("run(" + what + ")", it.run(what), model.run(what)); break;
            case 18: case 19: drawShortest(i, j, k, what); break;
            case 20: due("match(" + what + ")", it.match(what), model.match(what)); break;
            case 21: due("wide(" + what + ")", it.wide(what), model.wide(what)); break;
            case 22: due("owed(" + i + "," + j + ")", it.owed(i, j), model.owed(i, j)); break;
            case 23: due("net(" + i + ")", it.net(i), model.net(i)); break;
            case 24: due("chain()", it.chain(), model.chain()); break;
            case 25: due("payments()", it.payments(), model.payments()); break;
            default: drawLaterCall(kind, i, x, what);
        }
    }

    static void drawShortest(int i, int j, int k, int what) {
        int rights = draw.nextInt(30) == 0 ? draw.nextInt(12) - 2 : draw.nextInt(8);
        int w = what / 2;
        due("shortest(" + i + "," + rights + "," + j + "," + k + "," + w + ")", it.shortest(i, rights, j, k, w),
            model.shortest(i, rights, j, k, w));
    }

    static void drawLaterCall(int kind, int i, int x, int what) {
        switch (kind) {
            case 26: due("seats(" + (what - 2) + ")", it.seats(what - 2), model.seats(what - 2)); break;
            case 27: due("bestSwap(" + what / 3 + ")", it.bestSwap(what / 3), model.bestSwap(what / 3)); break;
            case 28: {
                int who = model.none(i) ? 0 : i;
                boolean likely = draw.nextInt(3) > 0 && !model.s.all.get(who).name.isEmpty();
                int c = likely ? model.s.all.get(who).name.charAt(0) - 'a' : x;
                int got = likely ? model.s.morning()[who] : draw.nextInt(12) - 1;
                due("enter(" + c + "," + got + ")", it.enter(c, got), model.enter(c, got));
                break;
            }
            case 29: if (draw.nextInt(4) == 0) {
                due("close()", it.close(), model.close());
            }
                break;
            case 30: due("fits()", it.fits(), model.fits()); break;
            case 31: due("sure(" + what + ")", it.sure(what), model.sure(what)); break;
            case 32: {
                int z = draw.nextInt(20) == 0 ? draw.nextInt(200) + 9900 : draw.nextInt(10000);
                due("year(" + z + "," + what / 3 + ")", it.year(z, what / 3), model.year(z, what / 3));
                break;
            }
            case 33: if (draw.nextInt(3) == 0) {
                due("keep()", it.keep(), model.keep());
            }
                break;
            case 34: if (draw.nextInt(3) == 0) {
                due("back()", it.back(), model.back());
            }
                break;
            default: due("count(" + (kind - 36) + ")", it.count(kind - 36), model.count(kind - 36));
        }
    }

    /** All that can be asked of a town without changing it. */
    static void lookAtAll() {
        for (int i = 0; i < model.s.all.size(); i++) {
            for (int what = 0; what < 8; what++) {
                due("person(" + i + "," + what + ")", it.person(i, what), model.person(i, what));
            }
            due("run(" + i + ")", it.run(i), model.run(i));
            due("match(" + i + ")", it.match(i), model.match(i));
            due("seats(" + i + ")", it.seats(i), model.seats(i));
            due("change(" + i + ")", it.change(i, 0), model.change(i, 0));
        }
        for (int x = 0; x < 26; x++) {
            due("alphabet(" + x + ",0)", it.alphabet(x, 0), model.alphabet(x, 0));
        }
    }

    /** Runs in which few kinds of calls come often, so that debts grow and changes stay. */
    static void oneRun(int seed) {
        run = seed;
        inRun = 0;
        draw = new Random(seed);
        it = new ByInitials();
        model = new Model();
        if (draw.nextInt(20) > 0) {
            String text = drawText();
            writeAll(draw.nextInt(5) == 0 ? spoilt(text) : text);
            due("fault()", it.fault(), model.read(new State()));
            due("lay()", it.lay(), model.lay());
        }
        int[] often = {draw.nextInt(48), 5, 8, 10, 11, 11, 12, 13, 14, 15, 28, 33, 34};
        for (int k = 0; k < 110; k++) {
            drawCall(draw.nextInt(2) == 0 ? often[draw.nextInt(often.length)] : draw.nextInt(48));
        }
        lookAtAll();
        if (seed % 3 == 0) {
            layAnother();
        }
    }

    /** Another town in the same object: nothing of the earlier one may be left. */
    static void layAnother() {
        due("wipe()", it.wipe(), model.wipe());
        // Short, so that a run stays about as long as an object is used for.
        String text = drawText();
        writeAll(text.substring(0, text.indexOf(';', Math.min(40, text.length() - 1)) + 1));
        due("lay()", it.lay(), model.lay());
        for (int k = 0; k < 30; k++) {
            drawCall(draw.nextInt(48));
        }
        for (int x = 0; x < 26; x++) {
            due("quarrel(" + x + ",0)", it.quarrel(x, 0), model.quarrel(x, 0));
            due("alphabet(" + x + ",2)", it.alphabet(x, 2), model.alphabet(x, 2));
        }
    }

    /** Only texts: faults at every place. */
    static void textRun(int seed) {
        run = seed;
        inRun = 0;
        draw = new Random(seed);
        it = new ByInitials();
        model = new Model();
        String text = drawText();
        int times = draw.nextInt(4);
        for (int k = 0; k < times; k++) {
            text = spoilt(text);
        }
        writeAll(text);
        due("fault()", it.fault(), model.read(new State()));
        due("lay()", it.lay(), model.lay());
        due("count(0)", it.count(0), model.count(0));
        due("count(10)", it.count(10), model.count(10));
    }

    public static void main(String[] args) {
        int runs = args.length > 0 ? Integer.parseInt(args[0]) : 1500;
        for (int seed = 1; seed <= runs; seed++) {
            oneRun(seed);
            for (int k = 0; k < 4; k++) {
                textRun(1000000 + seed * 4 + k);
            }
        }
        System.out.println(calls + " calls, " + wrong + " answers are not as due");
        if (wrong != 0) {
            System.exit(1);
        }
    }
}
