import java.util.ArrayList;
import java.util.List;
import java.util.regex.Matcher;
import java.util.regex.Pattern;
import java.util.stream.Stream;

/**
 * A run of calls on a new object, told in words with spaces between:
 * "owe(0,1,40,0,0)=3" a call and what it must answer (without "=": whatever it answers);
 * "owe(0,1,41,0,0)!-6" a call that must be refused so;
 * "16*go()" as often; "'p00;p13;'" a STREET that must come, with "=2" as so many STATEMENTS;
 * "'p60;'~-2000" a STREET that must have that FAULT (no letters may be there ahead of it).
 *
 * A question is asked twice, and must answer the same. Each call and each STREET is also made as the last of the 512
 * calls that an object is used for: those before were of all kinds and came to nothing, then what the run tells. It must
 * answer there as on a new object. Behind each refused call and each FAULT, and at the end, all that can be seen must be as if no refused call, no
 * STREET with a FAULT and no question had been; and just the refused calls must have been counted.
 */
final class Told {
    private static final Pattern WORD = Pattern.compile("(?:(\\d+)\\*)?(?:'([^']*)'|(\\w+\\([-\\d,]*\\)))(?:([=!~])(-?\\d+))?");
    /** More calls on one object are not promised to be answered. */
    private static final int MOST_CALLS = 512;

    private static final String SEVEN_PEOPLE = "feed(112) feed(48) feed(57) feed(59) feed(112) feed(51) feed(57) feed(59) "
            + "feed(112) feed(49) feed(57) feed(59) feed(112) feed(48) feed(57) feed(59) feed(112) feed(48) feed(57) feed(59) "
            + "feed(112) feed(48) feed(57) feed(59) feed(112) feed(48) feed(57) feed(59) street() ";
    /** Seven twos at first, then nine; all rows within are used, and those of THE SQUARE by six people. */
    private static final String[] USE = (SEVEN_PEOPLE + "unwilling(0,2) unwilling(5,6) owe(1,2,40,0,0) owe(2,1,37,9,1) "
            + "owe(2,3,40,0,0) owe(3,4,40,98,0) owe(4,5,39,9,0) owe(5,6,40,9,0) owe(6,1,40,9,0) owe(1,0,38,9,0) row(1) row(2) "
            + "row(2) row(1) row(2) row(1) row(1) row(2) fits() square(1) soonest(6) rounds() atOnce() heaviest(0) hold(1,2) "
            + "owe(1,3,40,9,0) owe(1,4,36,9,0) payments() through(0) square(0) busiest() swings(1,4) boss(1) corner() comesIn(0) "
            + "ring(-1) round() stands() bestOver() relieved(1,1) power(1,3,1) atOnce() lots(20,-1) go() over(9,5) go() "
            + "back() person(3,3) chain(4,5) paidBy(98) trade(1,3) feed(-1) feed(256) owe(0,0,1,1,0) owe(0,1,1,1,2) over(0,2) "
            + "judge() row(99) feed(112) feed(120) street() clear() restore()").split(" ");

    private static final Call[] USE_CALLS = Stream.of(USE).map(Call::new).toArray(Call[]::new);

    private static int tests = 0;
    private static int wrongs = 0;

    private final String name;
    private final List<Call> all = new ArrayList<>();
    private final List<Call> needed = new ArrayList<>();
    private final int[] refused = new int[7];

    private Told(String name) {
        this.name = name;
    }

    /** One test: what it looks at, and its run. */
    static void test(String name, String run) {
        tests++;
        Told told = new Told(name);
        for (String word : run.trim().split("\\s+")) {
            Matcher m = WORD.matcher(word);
            if (!m.matches()) {
                throw new IllegalArgumentException(word);
            }
            int times = m.group(1) == null ? 1 : Integer.parseInt(m.group(1));
            for (int i = 0; i < times; i++) {
                told.tell(m);
            }
        }
        told.compare("the end");
    }

    static void wrong(String what) {
        wrongs++;
        System.out.println(what);
    }

    static void due(String what, long got, long due) {
        if (got != due) {
            wrong(what + " is " + got + ", due is " + due);
        }
    }

    /** Ends the program, with 1 if anything was wrong. */
    static void end() {
        System.out.println(wrongs == 0 ? tests + " tests hold" : wrongs + " answers are not as due");
        if (wrongs != 0) {
            System.exit(1);
        }
    }

    private void tell(Matcher m) {
        String mark = m.group(4) == null ? "" : m.group(4);
        int number = m.group(5) == null ? 0 : Integer.parseInt(m.group(5));
        if (m.group(2) != null) {
            street(m.group(2), mark, number);
        } else {
            call(new Call(m.group(3)), mark, number);
        }
    }

    private void street(String text, String mark, int number) {
        List<Call> calls = new ArrayList<>();
        for (char letter : text.toCharArray()) {
            calls.add(new Call("feed(" + (int) letter + ")"));
        }
        calls.add(new Call("street()"));
        long answer = 0;
        KissesOwed x = replayed(all);
        for (Call c : calls) {
            answer = c.on(x);
        }
        due(name + ": '" + text + "' as the last STREET", atLast(calls), answer);
        all.addAll(calls);
        boolean comes = !mark.equals("~");
        if (comes) {
            needed.addAll(calls);
        }
        if (mark.isEmpty() ? answer < 1 : answer != number) {
            wrong(name + ": '" + text + "' answered " + answer + ", due is " + (mark.isEmpty() ? "none" : number));
        }
        if (!comes) {
            compare("'" + text + "'");
        }
    }

    private void call(Call call, String mark, int number) {
        KissesOwed x = replayed(all);
        long answer = call.on(x);
        boolean isRefused = mark.equals("!");
        if (!call.changes()) {
            due(name + ": " + call.text() + ", asked again,", call.on(x), answer);
        }
        if (!isOfTheWholeUse(call)) {
            due(name + ": " + call.text() + " as the last call", atLast(List.of(call)), answer);
        }
        long due = isRefused ? call.refusal(number) : number;
        all.add(call);
        if (isRefused) {
            refused[-number]++;
        } else if (call.changes()) {
            needed.add(call);
        }
        if (!mark.isEmpty() && answer != due) {
            wrong(name + ": " + call.text() + " answered " + answer + ", due is " + due);
        }
        if (isRefused) {
            compare(call.text());
        }
    }

    /** What an object was used for may be seen by how many REFUSALS there were, and by its having an IMAGE. */
    private boolean isOfTheWholeUse(Call call) {
        boolean imaged = needed.stream().anyMatch(c -> c.text().equals("image()"));
        return call.text().startsWith("count(1") && call.text().length() > "count(1)".length()
                || call.text().equals("restore()") && !imaged;
    }

    /** What the last of these calls answers if they are made behind what is needed, and it is the 512th. */
    private long atLast(List<Call> calls) {
        KissesOwed x = new KissesOwed();
        int before = MOST_CALLS - needed.size() - calls.size();
        if (before < 2 * USE.length) {
            throw new IllegalArgumentException("too long: " + name);
        }
        x.image();
        for (int i = 1; i < before; i++) {
            USE_CALLS[Math.floorMod(i - before, USE.length)].on(x);
        }
        long answer = 0;
        for (Call c : needed) {
            c.on(x);
        }
        for (Call c : calls) {
            answer = c.on(x);
        }
        return answer;
    }

    private KissesOwed replayed(List<Call> calls) {
        KissesOwed x = new KissesOwed();
        if (calls.size() > MOST_CALLS / 2) {
            throw new IllegalArgumentException("too long: " + name);
        }
        for (Call c : calls) {
            c.on(x);
        }
        return x;
    }

    private void compare(String where) {
        KissesOwed counted = replayed(all);
        for (int i = 1; i <= 6; i++) {
            int got = counted.count(10 + i);
            if (got != refused[i]) {
                wrong(name + ": behind " + where + " REFUSALS -" + i + " are " + got + ", due are " + refused[i]);
            }
        }
        for (int backs = 0; backs <= 9; backs++) {
            KissesOwed x = replayed(all);
            KissesOwed y = replayed(needed);
            for (int i = 0; i < backs; i++) {
                same(where + ", back()", x.back(), y.back());
            }
            sameLook(where + " and " + backs + " times back()", x, y);
        }
        KissesOwed x = replayed(all);
        KissesOwed y = replayed(needed);
        same(where + ", fits()", x.fits(), y.fits());
        same(where + ", judge()", x.judge(), y.judge());
        same(where + ", street()", x.street(), y.street());
        sameLook(where + " and street()", x, y);
        x = replayed(all);
        y = replayed(needed);
        same(where + ", restore()", x.restore(), y.restore());
        sameLook(where + " and restore()", x, y);
    }

    private void same(String where, long got, long due) {
        due(name + ": behind " + where, got, due);
    }

    /** All that can be seen but the REFUSALS. */
    private void sameLook(String where, KissesOwed x, KissesOwed y) {
        for (int what = 0; what < 8; what++) {
            same(where + ", count(" + what + ")", x.count(what), y.count(what));
        }
        for (int i = 0; i < y.count(0); i++) {
            for (int what = 0; what < 5; what++) {
                same(where + ", person(" + i + "," + what + ")", x.person(i, what), y.person(i, what));
            }
        }
        for (int i = 0; i < y.count(1); i++) {
            for (int what = 0; what < 7; what++) {
                same(where + ", paper(" + i + "," + what + ")", x.paper(i, what), y.paper(i, what));
            }
        }
    }
}
