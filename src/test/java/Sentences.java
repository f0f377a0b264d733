import java.io.IOException;
import java.lang.reflect.InvocationTargetException;
import java.lang.reflect.Method;
import java.nio.file.Files;
import java.nio.file.Path;
import java.util.ArrayList;
import java.util.HashMap;
import java.util.List;
import java.util.Map;
import java.util.Set;
import java.util.TreeMap;
import java.util.TreeSet;
import java.util.regex.Matcher;
import java.util.regex.Pattern;

/**
 * Tests by sentences of the document. A test names its sentence, which must stand in DOC.md; then come
 * runs of calls, each run on an object of its own:
 *
 *   "spell 3"          a call whose answer is not looked at,
 *   "person 0 2 = 9"   a call and the answer that is due,
 *   "rename 0 ! NO"    the same, and all that can be asked is as if the call had not been,
 *   "town T"           wipe, write all of T, lay; "text T" only writes; "word W" is unspell and spell,
 *   "3x undo & keep"   calls again and again.
 */
final class Sentences {
    static final int PROMISES = 39;
    private static final int MOST_CALLS = 512;
    private static final Path DOCUMENT = Path.of("../shared/DOC.md");
    private static final Map<String, Integer> NUMBERS = Map.of("BAD", -1, "NO", -2, "OVER", -3, "NONE", -4,
        "LOW", Integer.MIN_VALUE, "HIGH", Integer.MAX_VALUE);
    private static final Pattern DUE = Pattern.compile("(.*) ([=!]) (-?\\w+)");
    private static final Pattern AGAIN = Pattern.compile("(\\d+)x (.*)");

    /** A call of the face with its numbers. */
    private record Call(Method method, Object[] with) {
        String told() {
            StringBuilder b = new StringBuilder(method.getName());
            for (Object n : with) {
                b.append(' ').append(n);
            }
            return b.toString();
        }
    }

    private final Map<String, Method> face = new HashMap<>();
    private final Map<String, String> doc = new HashMap<>();
    /** For each part of the document, which call was seen to answer which sign, changing nothing. */
    private final Map<String, Set<String>> refused = new TreeMap<>();
    private final List<List<Call>> looks = new ArrayList<>();
    private List<Call> look;
    private String where = "";
    private String sentence = "";
    private int tests;
    private int answers;
    private int answersOfTest = 1;
    private int wrong;

    Sentences() {
        for (Method m : ByInitials.class.getDeclaredMethods()) {
            face.put(m.getName(), m);
        }
        readDocument();
        makeLooks();
    }

    /** Where the document is not at hand, its words are not looked up. */
    private void readDocument() {
        if (!Files.exists(DOCUMENT)) {
            System.out.println("there is no " + DOCUMENT + ": sentences are not looked up");
            return;
        }
        try {
            String all = Files.readString(DOCUMENT).replaceAll("\\s+", " ");
            doc.put("Terms", all.substring(0, all.indexOf("## Promise 1:")));
            for (int n = 1; n <= PROMISES; n++) {
                int from = all.indexOf("## Promise " + n + ":");
                doc.put("Promise " + n, all.substring(from, all.indexOf(" ## ", from)));
            }
        } catch (IOException e) {
            fail("the document cannot be read: " + e);
        }
    }

    private void fail(String what) {
        wrong++;
        if (wrong <= 60) {
            System.out.println(where + ", \"" + sentence + "\": " + what);
        }
    }

    // ---- tests

    /** The next runs are for this sentence, in this part: Terms, or Promise 1 to 39. */
    void test(String part, String words) {
        endTest();
        where = part;
        sentence = words;
        tests++;
        answersOfTest = 0;
        if (!doc.isEmpty() && !doc.getOrDefault(part, "").contains(words)) {
            fail("it does not stand in the document");
        }
    }

    private void endTest() {
        if (answersOfTest == 0) {
            fail("nothing is looked at");
        }
    }

    /** For each promise, each of the signs that it names must have been seen, with nothing changed. */
    void needEveryPromise() {
        for (int n = 1; n <= PROMISES && !doc.isEmpty(); n++) {
            String part = "Promise " + n;
            Matcher name = Pattern.compile("`(?:int )?(\\w+)\\(").matcher(doc.getOrDefault(part, ""));
            Matcher sign = Pattern.compile("\\b(BAD|NO|NONE|OVER)\\b").matcher(doc.getOrDefault(part, ""));
            if (!refused.containsKey(part) || !name.find()) {
                fail("there is no test for " + part);
                continue;
            }
            while (sign.find()) {
                if (!refused.get(part).contains(name.group(1) + " " + sign.group(1))) {
                    fail("there is no test of " + name.group(1) + "() for " + sign.group(1) + " in " + part);
                }
            }
        }
    }

    int end() {
        endTest();
        System.out.println(tests + " sentences, " + answers + " answers, " + wrong + " are not as due");
        return wrong == 0 ? 0 : 1;
    }

    // ---- runs

    void run(String... rows) {
        refused.computeIfAbsent(where, w -> new TreeSet<>());
        List<Call> before = new ArrayList<>();
        ByInitials it = new ByInitials();
        for (String row : rows) {
            Matcher due = DUE.matcher(row);
            boolean looked = due.matches();
            List<Call> now = parse(looked ? due.group(1) : row);
            int got = 0;
            for (Call c : now) {
                got = answer(it, c);
            }
            if (looked) {
                judge(row, got, number(due.group(3)));
            }
            if (looked && due.group(2).equals("!")) {
                refused.get(where).add(now.get(0).method().getName() + " " + due.group(3));
                dueUnchanged(row, before, now);
            }
            before.addAll(now);
        }
        if (before.size() > MOST_CALLS) {
            fail("a run of " + before.size() + " calls");
        }
    }

    private void judge(String row, int got, int want) {
        answers++;
        answersOfTest++;
        if (got != want) {
            fail("'" + row + "' answered " + got);
        }
    }

    /** A call with # in place of a number: the least and the greatest are none that is BAD, all beyond are. */
    void range(String setup, String call, int least, int greatest) {
        for (int n : new int[] {least, greatest}) {
            ByInitials it = new ByInitials();
            List<Call> calls = parse(setup);
            calls.addAll(parse(call.replace("#", "" + n)));
            int got = 0;
            for (Call c : calls) {
                got = answer(it, c);
            }
            judge(call + " with " + n + " is not to be BAD, and", got, got == ByInitials.BAD ? 0 : got);
        }
        for (String n : new String[] {"" + (least - 1), "" + (greatest + 1), "LOW", "HIGH"}) {
            run(setup, call.replace("#", n) + " ! BAD");
        }
    }

    /** A TEXT with its FAULT: it is not laid, and the town stays. */
    void fault(String text, int place) {
        run("text " + text, "fault = " + place, "lay ! NO");
    }

    private int answer(ByInitials it, Call c) {
        try {
            return (Integer) c.method().invoke(it, c.with());
        } catch (InvocationTargetException e) {
            fail(c.told() + " threw " + e.getCause());
        } catch (IllegalAccessException e) {
            fail(c.told() + " cannot be called");
        }
        return 0;
    }

    private static int number(String told) {
        return NUMBERS.containsKey(told) ? NUMBERS.get(told) : Integer.parseInt(told);
    }

    private List<Call> parse(String row) {
        List<Call> calls = new ArrayList<>();
        Matcher again = AGAIN.matcher(row);
        if (again.matches()) {
            List<Call> once = new ArrayList<>();
            for (String part : again.group(2).split(" & ")) {
                once.addAll(parse(part));
            }
            for (int k = Integer.parseInt(again.group(1)); k > 0; k--) {
                calls.addAll(once);
            }
        } else if (row.startsWith("text ")) {
            writes(calls, row.substring(5));
        } else if (row.startsWith("town ")) {
            calls.add(one("wipe"));
            writes(calls, row.substring(5));
            calls.add(one("lay"));
        } else if (row.startsWith("word")) {
            calls.add(one("unspell"));
            for (char c : row.substring(4).trim().toCharArray()) {
                calls.add(one("spell " + (c - 'a')));
            }
        } else if (!row.isEmpty()) {
            calls.add(one(row));
        }
        return calls;
    }

    private void writes(List<Call> calls, String text) {
        for (char c : text.toCharArray()) {
            calls.add(one("write " + (int) c));
        }
    }

    private Call one(String told) {
        String[] parts = told.split(" ");
        Method m = face.get(parts[0]);
        if (m == null || m.getParameterCount() != parts.length - 1) {
            throw new IllegalArgumentException("no such call: " + told);
        }
        Object[] with = new Object[parts.length - 1];
        for (int k = 0; k < with.length; k++) {
            with[k] = number(parts[k + 1]);
        }
        return new Call(m, with);
    }

    // ---- nothing changes

    private void dueUnchanged(String row, List<Call> before, List<Call> now) {
        List<Call> with = new ArrayList<>(before);
        with.addAll(now);
        for (List<Call> asked : looks) {
            List<Integer> due = answersBehind(before, asked);
            List<Integer> got = answersBehind(with, asked);
            for (int k = 0; k < asked.size(); k++) {
                if (!due.get(k).equals(got.get(k))) {
                    fail("behind '" + row + "', " + asked.get(k).told() + " answered " + got.get(k) + ", ahead of it "
                        + due.get(k) + " (after " + asked.get(0).told() + ")");
                    return;
                }
            }
        }
        answers++;
    }

    private List<Integer> answersBehind(List<Call> calls, List<Call> asked) {
        if (calls.size() + asked.size() > MOST_CALLS) {
            fail("a look behind " + calls.size() + " calls needs " + asked.size());
        }
        ByInitials it = new ByInitials();
        for (Call c : calls) {
            answer(it, c);
        }
        List<Integer> all = new ArrayList<>();
        for (Call c : asked) {
            all.add(answer(it, c));
        }
        return all;
    }

    private void ask(String row) {
        look.addAll(parse(row));
    }

    private void newLook(String... first) {
        look = new ArrayList<>();
        looks.add(look);
        for (String row : first) {
            ask(row);
        }
    }

    /** All that can be asked, on as many objects as it takes, as each is good for 512 calls alone. */
    private void makeLooks() {
        newLook();
        askPeople();
        newLook();
        askLetters();
        askDebts();
        newLook();
        askPlans();
        newLook("fault");
        for (int x = 0; x < 26; x += 2) {
            for (int y = x; y < 26; y++) {
                ask("quarrel " + x + " " + y);
            }
        }
        newLook("count 9");
        for (int x = 1; x < 26; x += 2) {
            for (int y = x; y < 26; y++) {
                ask("quarrel " + y + " " + x);
            }
        }
        askHidden();
    }

    private void askPeople() {
        for (int what = 0; what <= 10; what++) {
            ask("count " + what);
        }
        for (int i = 0; i < 8; i++) {
            for (int what = 0; what < 8; what++) {
                ask("person " + i + " " + what);
            }
            for (int k = 0; k < 6; k++) {
                ask("letter " + i + " " + k);
            }
        }
    }

    private void askLetters() {
        for (int x = 0; x < 26; x++) {
            ask("alphabet " + x + " 0");
            ask("alphabet " + x + " 1");
            ask("alphabet " + x + " 2");
        }
    }

    private void askDebts() {
        for (int i = 0; i < 8; i++) {
            for (int j = 0; j < 8; j++) {
                ask("owed " + i + " " + j);
            }
        }
    }

    private void askPlans() {
        for (int i = -2; i < 8; i++) {
            for (String call : new String[] {"run", "match", "seats", "sure", "price", "net", "wide"}) {
                ask(call + " " + i);
            }
            ask("may 0 " + i);
            ask("change " + i + " 0");
            ask("change " + i + " 1");
            ask("shortest " + i + " 7 0 1 1");
        }
        for (String call : new String[] {"bestSwap 0", "bestSwap 1", "fits", "chain", "payments", "year 7 0", "year 7 1"}) {
            ask(call);
        }
    }

    /** What shows only by calls that change something: THE TEXT, THE WORD, what is kept, what can be UNDONE. */
    private void askHidden() {
        newLook("lay");
        askPeople();
        newLook("newYear");
        for (int i = 0; i < 8; i++) {
            ask("rename " + i);
        }
        askPeople();
        for (int times = 1; times <= 2; times++) {
            newLook(times + "x back");
            askPeople();
            askDebts();
        }
        for (int times = 1; times <= 9; times++) {
            newLook(times + "x undo");
            askPeople();
            askDebts();
            ask("alphabet 0 0");
            ask("alphabet 25 0");
        }
    }
}
