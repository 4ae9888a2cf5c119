import java.util.ArrayList;
import java.util.Arrays;
import java.util.List;

/**
 * The document once more, as plainly as can be and without any thought of speed: every best is looked for among
 * all that there are. KissesOwedAgainstPlain asks it and the program the same.
 */
final class Plain {
    private static final int NONE = -9;

    static final class One {
        int kind;
        int figure;
        int kissed;
        boolean[] shuns = new boolean[7];

        One copy() {
            One c = new One();
            c.kind = kind;
            c.figure = figure;
            c.kissed = kissed;
            c.shuns = shuns.clone();
            return c;
        }
    }

    static final class Paper {
        int debtor;
        int holder;
        int quarters;
        int due;
        int forged;
        int state;

        Paper copy() {
            Paper c = new Paper();
            c.debtor = debtor;
            c.holder = holder;
            c.quarters = quarters;
            c.due = due;
            c.forged = forged;
            c.state = state;
            return c;
        }
    }

    /** What there is of part I. */
    static final class State {
        List<One> ones = new ArrayList<>();
        List<Paper> papers = new ArrayList<>();
        int day;

        State copy() {
            State c = new State();
            for (One o : ones) {
                c.ones.add(o.copy());
            }
            for (Paper p : papers) {
                c.papers.add(p.copy());
            }
            c.day = day;
            return c;
        }

        boolean is(int one) {
            return one >= 0 && one < ones.size();
        }

        boolean shuns(int a, int b) {
            return ones.get(a).shuns[b];
        }

        boolean may(int a, int b) {
            return a != b && !shuns(a, b) && !shuns(b, a);
        }

        int worth(Paper p) {
            if (p.state != 0) {
                return 0;
            }
            int days = p.due > day ? p.due - day : 0;
            int cut = 2 * days > 100 ? 100 : 2 * days;
            int person = p.quarters - p.quarters * cut / 100;
            int answer = 0;
            int kind = ones.get(p.debtor).kind;
            if (kind == 0) {
                answer = person;
            } else if (kind == 1) {
                answer = p.quarters;
            } else if (kind == 2) {
                answer = person / 2;
            } else if (kind == 3) {
                answer = person - ones.get(p.debtor).figure;
            } else if (kind == 4) {
                answer = p.quarters - p.quarters / 10;
            } else {
                answer = p.forged == 1 ? 0 : person / 2;
            }
            return answer < 0 ? 0 : answer;
        }

        int purse(int one) {
            return papers.stream().filter(p -> p.holder == one).mapToInt(this::worth).sum();
        }

        boolean canOver(int p, int to) {
            Paper q = papers.get(p);
            return q.state == 0 && q.holder != to && (q.debtor == to || !shuns(to, q.debtor));
        }

        void over(int p, int to) {
            Paper q = papers.get(p);
            q.holder = to;
            if (q.debtor == to) {
                q.state = 2;
            }
        }

        void go() {
            for (Paper p : papers) {
                if (p.state == 0 && p.due == day) {
                    if (p.forged == 0 && may(p.debtor, p.holder)) {
                        p.state = 1;
                        ones.get(p.holder).kissed += p.quarters;
                    } else {
                        p.state = 3;
                    }
                }
            }
            day++;
        }

        int owes(int a, int b) {
            return papers.stream().filter(p -> p.state == 0 && p.debtor == a && p.holder == b)
                    .mapToInt(p -> p.quarters).sum();
        }

        int net(int a) {
            int sum = 0;
            for (Paper p : papers) {
                if (p.state == 0 && p.holder == a) {
                    sum += p.quarters;
                }
                if (p.state == 0 && p.debtor == a) {
                    sum -= p.quarters;
                }
            }
            return sum;
        }

        int[] nets() {
            int[] nets = new int[ones.size()];
            for (int i = 0; i < nets.length; i++) {
                nets[i] = net(i);
            }
            return nets;
        }

        int allKissed() {
            return ones.stream().mapToInt(o -> o.kissed).sum();
        }
    }

    private State now = new State();
    private State image;
    private final List<State> past = new ArrayList<>();
    private final StringBuilder text = new StringBuilder();
    private final List<Integer> row = new ArrayList<>();
    private final int[] refused = new int[7];

    private int no(int code) {
        refused[-code]++;
        return code;
    }

    private long noLong(int code) {
        return 4000000000000000000L - no(code);
    }

    private boolean is(int one) {
        return now.is(one);
    }

    private boolean isPaper(int p) {
        return p >= 0 && p < now.papers.size();
    }

    int feed(int letter) {
        if (letter < 0) {
            return no(-4);
        }
        if (letter > 255 || text.length() == 96) {
            return no(-6);
        }
        text.append((char) letter);
        return text.length();
    }

    int street() {
        String all = text.toString();
        text.setLength(0);
        List<Integer> starts = new ArrayList<>();
        int i = 0;
        do {
            starts.add(i);
            String[] forms = {"p##;", "u##;", "o######?;", "m###;", "d#;"};
            String form = null;
            for (String f : forms) {
                if (i < all.length() && f.charAt(0) == all.charAt(i)) {
                    form = f;
                }
            }
            if (form == null) {
                return -1000 - i;
            }
            for (char f : form.toCharArray()) {
                if (i >= all.length()) {
                    return -1000 - i;
                }
                char c = all.charAt(i);
                boolean fine = f == '#' ? "0123456789".indexOf(c) >= 0 : f == '?' ? c == '=' || c == 'x' : c == f;
                if (!fine) {
                    return -1000 - i;
                }
                i++;
            }
        } while (i < all.length());
        State then = now.copy();
        for (int start : starts) {
            if (!said(then, all.substring(start))) {
                return -2000 - start;
            }
        }
        now = then;
        past.clear();
        return starts.size();
    }

    private static boolean said(State s, String t) {
        int a = t.charAt(1) - '0';
        int b = t.charAt(2) - '0';
        switch (t.charAt(0)) {
            case 'p':
                if (a > 5 || s.ones.size() == 7) {
                    return false;
                }
                One o = new One();
                o.kind = a;
                o.figure = b;
                s.ones.add(o);
                return true;
            case 'u':
                if (!s.is(a) || !s.is(b) || a == b) {
                    return false;
                }
                s.ones.get(a).shuns[b] = !s.ones.get(a).shuns[b];
                return true;
            case 'o':
                int quarters = Integer.parseInt(t.substring(3, 5));
                int due = Integer.parseInt(t.substring(5, 7));
                if (!s.is(a) || !s.is(b) || a == b || quarters < 1 || quarters > 40 || due > 98
                        || s.papers.size() == 16) {
                    return false;
                }
                s.papers.add(made(a, b, quarters, due, t.charAt(7) == 'x' ? 1 : 0));
                return true;
            case 'm':
                int p = Integer.parseInt(t.substring(1, 3));
                int to = t.charAt(3) - '0';
                if (p >= s.papers.size() || !s.is(to) || !s.canOver(p, to)) {
                    return false;
                }
                s.over(p, to);
                return true;
            default:
                if (s.day + a > 99) {
                    return false;
                }
                for (int i = 0; i < a; i++) {
                    s.go();
                }
                return true;
        }
    }

    private static Paper made(int debtor, int holder, int quarters, int due, int forged) {
        Paper p = new Paper();
        p.debtor = debtor;
        p.holder = holder;
        p.quarters = quarters;
        p.due = due;
        p.forged = forged;
        return p;
    }

    int person(int one, int what) {
        if (!is(one)) {
            return no(-1);
        }
        if (what < 0 || what > 4) {
            return no(-2);
        }
        int bits = 0;
        for (int i = 0; i < 7; i++) {
            bits += now.shuns(one, i) ? 1 << i : 0;
        }
        One o = now.ones.get(one);
        return new int[] {o.kind, o.figure, o.kissed, now.purse(one), bits}[what];
    }

    int paper(int paper, int what) {
        if (!isPaper(paper)) {
            return no(-1);
        }
        if (what < 0 || what > 6) {
            return no(-2);
        }
        Paper p = now.papers.get(paper);
        return new int[] {p.debtor, p.holder, p.quarters, p.due, p.forged, p.state, now.worth(p)}[what];
    }

    int unwilling(int a, int b) {
        if (!is(a) || !is(b) || a == b) {
            return no(-1);
        }
        past.clear();
        boolean[] shuns = now.ones.get(a).shuns;
        shuns[b] = !shuns[b];
        return shuns[b] ? 1 : 0;
    }

    int owe(int debtor, int holder, int quarters, int due, int forged) {
        if (!is(debtor) || !is(holder) || debtor == holder) {
            return no(-1);
        }
        if (forged != 0 && forged != 1) {
            return no(-2);
        }
        if (quarters < 1 || due < 0) {
            return no(-4);
        }
        if (quarters > 40 || due > 98 || now.papers.size() == 16) {
            return no(-6);
        }
        past.clear();
        now.papers.add(made(debtor, holder, quarters, due, forged));
        return now.papers.size() - 1;
    }

    private void remember() {
        past.add(now.copy());
        if (past.size() > 8) {
            past.remove(0);
        }
    }

    int over(int paper, int to) {
        if (!isPaper(paper) || !is(to)) {
            return no(-1);
        }
        if (!now.canOver(paper, to)) {
            return no(-3);
        }
        remember();
        now.over(paper, to);
        return now.papers.get(paper).state;
    }

    int go() {
        if (now.day == 99) {
            return no(-6);
        }
        remember();
        now.go();
        return now.day;
    }

    int back() {
        if (past.isEmpty()) {
            return no(-3);
        }
        now = past.remove(past.size() - 1);
        return now.day;
    }

    int owes(int a, int b) {
        return !is(a) || !is(b) || a == b ? no(-1) : now.owes(a, b);
    }

    int net(int a) {
        return is(a) ? now.net(a) : 1000000000 - no(-1);
    }

    /** The fewest payments by trying whom the first with a NET pays: somebody with a NET of the other sign. */
    private static int fewestFrom(int[] nets, int i) {
        while (i < nets.length && nets[i] == 0) {
            i++;
        }
        if (i == nets.length) {
            return 0;
        }
        int best = 99;
        for (int j = i + 1; j < nets.length; j++) {
            if (Integer.signum(nets[i]) * Integer.signum(nets[j]) < 0) {
                nets[j] += nets[i];
                best = Math.min(best, 1 + fewestFrom(nets, i + 1));
                nets[j] -= nets[i];
            }
        }
        return best;
    }

    int payments() {
        return fewestFrom(now.nets(), 0);
    }

    /** The most QUARTERS pushed along augmenting paths; answers [all, who can still be come to]. */
    private static int[] flow(State s) {
        int n = s.ones.size();
        int source = n;
        int sink = n + 1;
        int[][] left = new int[n + 2][n + 2];
        for (int i = 0; i < n; i++) {
            left[source][i] = Math.max(0, -s.net(i));
            left[i][sink] = Math.max(0, s.net(i));
            for (int j = 0; j < n; j++) {
                left[i][j] = s.may(i, j) ? 1000000 : 0;
            }
        }
        int all = 0;
        while (true) {
            int[] from = new int[n + 2];
            Arrays.fill(from, -1);
            from[source] = source;
            List<Integer> queue = new ArrayList<>(List.of(source));
            for (int q = 0; q < queue.size(); q++) {
                for (int v = 0; v < n + 2; v++) {
                    if (from[v] < 0 && left[queue.get(q)][v] > 0) {
                        from[v] = queue.get(q);
                        queue.add(v);
                    }
                }
            }
            if (from[sink] < 0) {
                int bits = 0;
                for (int i = 0; i < n; i++) {
                    bits |= from[i] >= 0 ? 1 << i : 0;
                }
                return new int[] {all, bits};
            }
            int most = Integer.MAX_VALUE;
            for (int v = sink; v != source; v = from[v]) {
                most = Math.min(most, left[from[v]][v]);
            }
            for (int v = sink; v != source; v = from[v]) {
                left[from[v]][v] -= most;
                left[v][from[v]] += most;
            }
            all += most;
        }
    }

    int through(int what) {
        return what < 0 || what > 1 ? no(-2) : flow(now)[what];
    }

    int nobodyWill() {
        for (int i = 0; i < now.papers.size(); i++) {
            Paper p = now.papers.get(i);
            State then = now.copy();
            if (p.state == 0 && p.due >= now.day) {
                while (then.day <= p.due) {
                    then.go();
                }
                if (then.papers.get(i).state == 3) {
                    return i;
                }
            }
        }
        return NONE;
    }

    private List<int[]> twos() {
        List<int[]> twos = new ArrayList<>();
        for (int i = 0; i < now.ones.size(); i++) {
            for (int j = i + 1; j < now.ones.size(); j++) {
                int a = now.owes(i, j);
                int b = now.owes(j, i);
                if (a + b > 0) {
                    twos.add(new int[] {i, j, Math.max(2, Math.abs(a - b))});
                }
            }
        }
        return twos;
    }

    private static int end(List<int[]> order) {
        int[] free = new int[7];
        int end = 0;
        for (int[] two : order) {
            int done = Math.max(free[two[0]], free[two[1]]) + two[2];
            free[two[0]] = done;
            free[two[1]] = done;
            end = Math.max(end, done);
        }
        return end;
    }

    private int bestEnd;
    private List<int[]> bestOrder;

    private void allOrders(List<int[]> left, List<int[]> order) {
        if (left.isEmpty()) {
            if (end(order) < bestEnd) {
                bestEnd = end(order);
                bestOrder = new ArrayList<>(order);
            }
            return;
        }
        for (int i = 0; i < left.size(); i++) {
            int[] two = left.remove(i);
            order.add(two);
            allOrders(left, order);
            order.remove(order.size() - 1);
            left.add(i, two);
        }
    }

    private void findSoonest() {
        bestEnd = Integer.MAX_VALUE;
        allOrders(twos(), new ArrayList<>());
    }

    int square(int what) {
        if (what < 0 || what > 1) {
            return no(-2);
        }
        if (what == 0) {
            return end(twos());
        }
        if (twos().size() > 7) {
            return no(-3);
        }
        findSoonest();
        return bestEnd;
    }

    int soonest(int i) {
        if (i < 0) {
            return no(-4);
        }
        if (twos().size() > 7) {
            return no(-3);
        }
        findSoonest();
        return i < bestOrder.size() ? 10 * bestOrder.get(i)[0] + bestOrder.get(i)[1] : NONE;
    }

    int busiest() {
        int best = NONE;
        int most = 0;
        for (int i = 0; i < now.ones.size(); i++) {
            int his = 0;
            for (int[] two : twos()) {
                his += two[0] == i || two[1] == i ? two[2] : 0;
            }
            if (his > most) {
                most = his;
                best = i;
            }
        }
        return best;
    }

    private int gained(int buyer, int debtor) {
        int sum = 0;
        for (Paper p : now.papers) {
            if (p.state == 0 && p.debtor == debtor && p.holder != buyer && !now.shuns(buyer, debtor)) {
                sum += (p.forged == 1 ? 0 : p.quarters) - now.worth(p);
            }
        }
        return sum;
    }

    int gain(int buyer, int debtor) {
        return !is(buyer) || !is(debtor) || buyer == debtor ? 1000000000 - no(-1) : gained(buyer, debtor);
    }

    int bestBuy(int buyer) {
        if (!is(buyer)) {
            return no(-1);
        }
        int best = NONE;
        for (int d = now.ones.size() - 1; d >= 0; d--) {
            if (d != buyer && gained(buyer, d) > 0 && (best == NONE || gained(buyer, d) >= gained(buyer, best))) {
                best = d;
            }
        }
        return best;
    }

    private List<Integer> holders(int debtor) {
        List<Integer> list = new ArrayList<>();
        for (int i = 0; i < now.ones.size(); i++) {
            if (now.owes(debtor, i) > 0) {
                list.add(i);
            }
        }
        return list;
    }

    private boolean more(int debtor, List<Integer> set) {
        int all = 0;
        for (int h : holders(debtor)) {
            all += now.owes(debtor, h);
        }
        int sum = 0;
        for (int h : set) {
            sum += now.owes(debtor, h);
        }
        return 2 * sum > all;
    }

    int swings(int debtor, int holder) {
        if (!is(debtor) || !is(holder)) {
            return no(-1);
        }
        List<Integer> all = holders(debtor);
        int found = 0;
        for (int bits = 0; bits < 1 << all.size(); bits++) {
            List<Integer> with = new ArrayList<>();
            for (int i = 0; i < all.size(); i++) {
                if ((bits >> i & 1) == 1) {
                    with.add(all.get(i));
                }
            }
            if (!with.contains(holder)) {
                continue;
            }
            List<Integer> without = new ArrayList<>(with);
            without.remove((Integer) holder);
            if (more(debtor, with) && !more(debtor, without)) {
                found++;
            }
        }
        return found;
    }

    int boss(int debtor) {
        if (!is(debtor)) {
            return no(-1);
        }
        for (int h : holders(debtor)) {
            if (more(debtor, List.of(h))) {
                return h;
            }
        }
        return NONE;
    }

    int corner() {
        int best = NONE;
        int above = 0;
        int below = 1;
        for (int d = 0; d < now.ones.size(); d++) {
            int all = 0;
            for (int h : holders(d)) {
                all += now.owes(d, h);
            }
            for (int h : holders(d)) {
                if (now.owes(d, h) * below > above * all) {
                    above = now.owes(d, h);
                    below = all;
                    best = d;
                }
            }
        }
        return best;
    }

    int looks(int n) {
        if (n < 0) {
            return no(-4);
        }
        if (n > 99) {
            return no(-6);
        }
        return halvings(n + 1);
    }

    private static int halvings(int cases) {
        return cases <= 1 ? 0 : 1 + halvings((cases + 1) / 2);
    }

    private int steps(int from, int goals) {
        int[] at = new int[7];
        Arrays.fill(at, 99);
        at[from] = 0;
        for (int k = 0; k < 7; k++) {
            for (int i = 0; i < now.ones.size(); i++) {
                for (int j = 0; j < now.ones.size(); j++) {
                    if (now.may(i, j)) {
                        at[j] = Math.min(at[j], at[i] + 1);
                    }
                }
            }
        }
        int best = 99;
        for (int i = 0; i < 7; i++) {
            if ((goals >> i & 1) == 1) {
                best = Math.min(best, at[i]);
            }
        }
        return best == 99 ? NONE : best;
    }

    int chain(int a, int b) {
        return !is(a) || !is(b) ? no(-1) : steps(a, 1 << b);
    }

    int inIt() {
        int bits = 0;
        for (Paper p : now.papers) {
            if (p.state == 0) {
                bits |= 1 << p.debtor | 1 << p.holder;
            }
        }
        return bits;
    }

    int comesIn(int one) {
        return is(one) ? steps(one, inIt()) : no(-1);
    }

    int fits() {
        int n = row.size() / 2;
        if (row.size() != 4 && row.size() != 6 && row.size() != 8 || n > now.ones.size()) {
            return no(-3);
        }
        int ways = 0;
        for (int bits = 0; bits < 1 << n * n; bits++) {
            int[] sums = new int[2 * n];
            boolean may = true;
            for (int i = 0; i < n; i++) {
                for (int j = 0; j < n; j++) {
                    if ((bits >> n * i + j & 1) == 1) {
                        may &= i != j && !now.shuns(i, j);
                        sums[i]++;
                        sums[n + j]++;
                    }
                }
            }
            for (int i = 0; i < 2 * n; i++) {
                may &= sums[i] == row.get(i);
            }
            ways += may ? 1 : 0;
        }
        return ways;
    }

    long deaths(int paper, int t, int part) {
        if (!isPaper(paper)) {
            return noLong(-1);
        }
        if (t < 2) {
            return noLong(-4);
        }
        if (t > 20) {
            return noLong(-6);
        }
        if (part < 0 || part > 1) {
            return noLong(-2);
        }
        Paper p = now.papers.get(paper);
        if (p.state != 0 || p.due < now.day || p.due > now.day + 12) {
            return noLong(-3);
        }
        return java.math.BigInteger.valueOf(t - (part == 0 ? 1 : 0)).pow(p.due - now.day).longValueExact();
    }

    int hold(int one, int k) {
        if (!is(one)) {
            return no(-1);
        }
        if (k < 0) {
            return no(-4);
        }
        if (k > 3) {
            return no(-6);
        }
        int best = NONE;
        int most = -1;
        for (int bits = 0; bits < 1 << now.papers.size(); bits++) {
            if (Integer.bitCount(bits) != k) {
                continue;
            }
            int sum = 0;
            boolean may = true;
            List<Integer> debtors = new ArrayList<>();
            for (int i = 0; i < now.papers.size(); i++) {
                Paper p = now.papers.get(i);
                if ((bits >> i & 1) == 1) {
                    may &= p.state == 0 && p.holder == one && !debtors.contains(p.debtor);
                    debtors.add(p.debtor);
                    sum += now.worth(p);
                }
            }
            if (may && sum > most) {
                most = sum;
                best = bits;
            }
        }
        return best;
    }

    /** All rings as their members in order, the shortest and then least kept. */
    private void rings(List<Integer> path, List<List<Integer>> found) {
        int last = path.get(path.size() - 1);
        for (int next = 0; next < now.ones.size(); next++) {
            if (next == last || now.owes(last, next) == 0) {
                continue;
            }
            if (next == path.get(0)) {
                found.add(new ArrayList<>(path));
            } else if (!path.contains(next)) {
                path.add(next);
                rings(path, found);
                path.remove(path.size() - 1);
            }
        }
    }

    private List<Integer> bestRing() {
        List<List<Integer>> found = new ArrayList<>();
        for (int i = 0; i < now.ones.size(); i++) {
            rings(new ArrayList<>(List.of(i)), found);
        }
        List<Integer> best = new ArrayList<>();
        for (List<Integer> r : found) {
            if (best.isEmpty() || r.size() < best.size()
                    || r.size() == best.size() && r.toString().compareTo(best.toString()) < 0) {
                best = r;
            }
        }
        return best;
    }

    int ring(int i) {
        if (i < -1) {
            return no(-4);
        }
        List<Integer> ring = bestRing();
        if (ring.isEmpty()) {
            return NONE;
        }
        return i == -1 ? ring.size() : i < ring.size() ? ring.get(i) : NONE;
    }

    int round() {
        List<Integer> ring = bestRing();
        int least = ring.isEmpty() ? NONE : 99999;
        for (int i = 0; i < ring.size(); i++) {
            least = Math.min(least, now.owes(ring.get(i), ring.get((i + 1) % ring.size())));
        }
        return least;
    }

    int stands() {
        int most = flow(now)[0];
        int best = NONE;
        for (int i = 0; i < now.ones.size(); i++) {
            State then = now.copy();
            for (int j = 0; j < now.ones.size(); j++) {
                then.ones.get(i).shuns[j] = false;
                then.ones.get(j).shuns[i] = false;
            }
            if (flow(then)[0] > most) {
                most = flow(then)[0];
                best = i;
            }
        }
        return best;
    }

    int rich(int one, int v) {
        if (!is(one)) {
            return no(-1);
        }
        if (v < 0) {
            return no(-4);
        }
        if (v > 999) {
            return no(-6);
        }
        State then = now.copy();
        while (then.day < 99) {
            then.go();
            if (then.ones.get(one).kissed >= v) {
                return then.day - 1;
            }
        }
        return NONE;
    }

    int last() {
        return now.papers.stream().filter(p -> p.state == 0).mapToInt(p -> p.due).max().orElse(NONE);
    }

    int paidBy(int n) {
        if (n < now.day) {
            return no(-4);
        }
        if (n > 98) {
            return no(-6);
        }
        State then = now.copy();
        while (then.day <= n) {
            then.go();
        }
        return then.allKissed() - now.allKissed();
    }

    int trade(int a, int b) {
        if (!is(a) || !is(b) || a == b) {
            return no(-1);
        }
        int least = Math.abs(now.purse(a) - now.purse(b));
        int best = NONE;
        for (int i = 0; i < now.papers.size(); i++) {
            for (int j = 0; j < now.papers.size(); j++) {
                Paper p = now.papers.get(i);
                Paper q = now.papers.get(j);
                if (p.holder != a || q.holder != b || p.debtor == b || q.debtor == a || !now.canOver(i, b)
                        || !now.canOver(j, a)) {
                    continue;
                }
                State then = now.copy();
                then.over(i, b);
                then.over(j, a);
                if (Math.abs(then.purse(a) - then.purse(b)) < least) {
                    least = Math.abs(then.purse(a) - then.purse(b));
                    best = 100 * i + j;
                }
            }
        }
        return best;
    }

    int heirs(int one) {
        if (!is(one)) {
            return no(-1);
        }
        State then = now.copy();
        for (Paper p : then.papers) {
            if (p.debtor == one && p.state == 0) {
                p.state = 3;
            }
        }
        int less = 0;
        for (int i = 0; i < now.ones.size(); i++) {
            less += i == one ? 0 : now.purse(i) - then.purse(i);
        }
        return less;
    }

    int stuck() {
        int bits = 0;
        for (int i = 0; i < now.papers.size(); i++) {
            Paper p = now.papers.get(i);
            boolean taken = false;
            for (int to = 0; to < now.ones.size(); to++) {
                taken |= to != p.holder && to != p.debtor && !now.shuns(to, p.debtor);
            }
            bits |= p.state == 0 && !taken ? 1 << i : 0;
        }
        return bits;
    }

    int cancels() {
        int sum = 0;
        for (int i = 0; i < now.ones.size(); i++) {
            for (int j = i + 1; j < now.ones.size(); j++) {
                sum += Math.min(now.owes(i, j), now.owes(j, i));
            }
        }
        return sum;
    }

    int bestOver() {
        int fewest = payments();
        int best = NONE;
        for (int i = 0; i < now.papers.size(); i++) {
            for (int to = 0; to < now.ones.size(); to++) {
                if (now.canOver(i, to)) {
                    State then = now.copy();
                    then.over(i, to);
                    if (fewestFrom(then.nets(), 0) < fewest) {
                        fewest = fewestFrom(then.nets(), 0);
                        best = 10 * i + to;
                    }
                }
            }
        }
        return best;
    }

    int relieved(int one, int what) {
        if (!is(one)) {
            return no(-1);
        }
        if (what < 0 || what > 1) {
            return no(-2);
        }
        int fewest = 99;
        int best = NONE;
        for (int bits = 0; bits < 1 << now.papers.size(); bits++) {
            int net = now.net(one);
            boolean may = Integer.bitCount(bits) < fewest;
            for (int i = 0; may && i < now.papers.size(); i++) {
                Paper p = now.papers.get(i);
                if ((bits >> i & 1) == 1) {
                    may = p.state == 0 && p.debtor == one;
                    net += p.quarters;
                }
            }
            if (may && net >= 0) {
                fewest = Integer.bitCount(bits);
                best = bits;
            }
        }
        return what == 0 ? fewest : best;
    }

    private int turned(int debtor, int holder, List<Integer> come, List<Integer> left) {
        if (left.isEmpty()) {
            List<Integer> so = new ArrayList<>();
            for (int h : come) {
                so.add(h);
                if (more(debtor, so)) {
                    return h == holder ? 1 : 0;
                }
            }
            return 0;
        }
        int found = 0;
        for (int i = 0; i < left.size(); i++) {
            List<Integer> rest = new ArrayList<>(left);
            List<Integer> next = new ArrayList<>(come);
            next.add(rest.remove(i));
            found += turned(debtor, holder, next, rest);
        }
        return found;
    }

    long power(int debtor, int holder, int part) {
        if (!is(debtor) || !is(holder)) {
            return noLong(-1);
        }
        if (part < 0 || part > 1) {
            return noLong(-2);
        }
        List<Integer> all = holders(debtor);
        int above = turned(debtor, holder, List.of(), all);
        if (above == 0) {
            return part;
        }
        int below = 1;
        for (int i = 1; i <= all.size(); i++) {
            below *= i;
        }
        for (int f = below; f > 1; f--) {
            if (above % f == 0 && below % f == 0) {
                above /= f;
                below /= f;
            }
        }
        return part == 0 ? above : below;
    }

    private static int atOnce(List<int[]> twos, int i, int used) {
        if (i == twos.size()) {
            return 0;
        }
        int both = 1 << twos.get(i)[0] | 1 << twos.get(i)[1];
        int without = atOnce(twos, i + 1, used);
        return (used & both) != 0 ? without : Math.max(without, 1 + atOnce(twos, i + 1, used | both));
    }

    int atOnce() {
        return atOnce(twos(), 0, 0);
    }

    private static boolean inRounds(List<int[]> twos, int i, int[] rounds) {
        if (i == twos.size()) {
            return true;
        }
        int both = 1 << twos.get(i)[0] | 1 << twos.get(i)[1];
        for (int r = 0; r < rounds.length; r++) {
            if ((rounds[r] & both) == 0) {
                rounds[r] |= both;
                if (inRounds(twos, i + 1, rounds)) {
                    return true;
                }
                rounds[r] &= ~both;
            }
        }
        return false;
    }

    int rounds() {
        if (twos().size() > 7) {
            return no(-3);
        }
        int n = 0;
        while (!inRounds(twos(), 0, new int[n])) {
            n++;
        }
        return n;
    }

    int heaviest(int what) {
        if (what < 0 || what > 1) {
            return no(-2);
        }
        if (count(3) > 10) {
            return no(-3);
        }
        int best = 0;
        int most = 0;
        for (int bits = 0; bits < 1 << now.papers.size(); bits++) {
            int sum = 0;
            int debtors = 0;
            int holders = 0;
            boolean may = true;
            for (int i = 0; may && i < now.papers.size(); i++) {
                Paper p = now.papers.get(i);
                if ((bits >> i & 1) == 1) {
                    may = p.state == 0 && (debtors >> p.debtor & 1) == 0 && (holders >> p.holder & 1) == 0;
                    debtors |= 1 << p.debtor;
                    holders |= 1 << p.holder;
                    sum += p.quarters;
                }
            }
            if (may && sum > most) {
                most = sum;
                best = bits;
            }
        }
        return what == 0 ? best : most;
    }

    int row(int v) {
        if (v < 0) {
            return no(-4);
        }
        if (v > 99 || row.size() == 12) {
            return no(-6);
        }
        row.add(v);
        return row.size();
    }

    int judge() {
        int answer = NONE;
        for (int i = row.size() - 1; i >= 0; i--) {
            if (!isPaper(i) || now.worth(now.papers.get(i)) != row.get(i)) {
                answer = i;
            }
        }
        row.clear();
        return answer;
    }

    int clear() {
        int n = row.size();
        row.clear();
        return n;
    }

    int lots(int n, int z) {
        if (n < 1) {
            return no(-4);
        }
        if (n > 20) {
            return no(-6);
        }
        int seed = z;
        int paid = 0;
        for (int year = 0; year < n; year++) {
            State then = now.copy();
            for (Paper p : then.papers) {
                if (p.state == 0) {
                    seed = seed * 1103515245 + 12345;
                    p.due = (int) ((seed & 0x7fffffffL) / 65536 % 99);
                }
            }
            while (then.day < 99) {
                then.go();
            }
            paid += then.allKissed() - now.allKissed();
        }
        return paid;
    }

    int image() {
        image = now.copy();
        return now.day;
    }

    int restore() {
        if (image == null) {
            return no(-3);
        }
        now = image.copy();
        past.clear();
        return now.day;
    }

    int count(int what) {
        if (what >= 11 && what <= 16) {
            return refused[what - 10];
        }
        if (what < 0 || what > 7) {
            return NONE;
        }
        int open = (int) now.papers.stream().filter(p -> p.state == 0).count();
        return new int[] {now.ones.size(), now.papers.size(), now.day, open, now.allKissed(), text.length(),
            row.size(), past.size()}[what];
    }
}
