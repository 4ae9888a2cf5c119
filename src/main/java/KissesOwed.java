/**
 * Kisses that people owe one another in quarters: the papers, the days on which they fall due, and what
 * can be asked of them. Every call answers a number; no call throws.
 */
public final class KissesOwed {
    private static final int MOST_PEOPLE = 7;
    private static final int MOST_PAPERS = 16;
    private static final int MOST_QUARTERS = 40;
    private static final int LAST_DUE = 98;
    private static final int LAST_DAY = 99;
    private static final int MOST_LETTERS = 96;
    private static final int GREATEST_LETTER = 255;
    private static final int MOST_IN_ROW = 12;
    private static final int MOST_TAKEN_BACK = 8;
    /** How many twos seven people can make. */
    private static final int MOST_TWOS = 21;
    /** Beyond so many twos no ORDER is looked for. */
    private static final int MOST_ORDERED = 7;
    /** Beyond so many OPEN papers the HEAVIEST set is not looked for. */
    private static final int MOST_WEIGHED = 10;
    /** How many sets seven people, or seven twos, have. */
    private static final int SETS = 128;
    private static final int SQUARED = 49;
    /** More than any count or sum here comes to. */
    private static final int FAR = 1000000;
    /** By how many each one is still to be kissed stands in so many bits of one number. */
    private static final int WANTED_BITS = 7;

    private static final int AUNT = 1;
    private static final int SAILOR = 2;
    private static final int SHY = 3;
    private static final int WIDOW = 4;
    private static final int FORGER = 5;

    private static final int OPEN = 0;
    private static final int PAID = 1;
    private static final int CANCELLED = 2;
    private static final int LOST = 3;

    private static final int NOBODY = -1;
    private static final int OTHER = -2;
    private static final int STATE = -3;
    private static final int BELOW = -4;
    private static final int ROOM = -6;
    private static final int NONE = -9;
    private static final int REFUSED_NUMBER = 1000000000;
    private static final long REFUSED_LONG = 4000000000000000000L;

    private final World world = new World();
    private final World imaged = new World();
    private boolean hasImage;
    private final Past past = new Past();
    private final Letters letters = new Letters();
    private final int[] told = new int[MOST_IN_ROW];
    private int toldLength;
    private final int[] refusals = new int[-ROOM + 1];
    private final Ledger ledger = new Ledger();
    private final Company company = new Company();
    private final Settlement settlement = new Settlement();
    private final Square market = new Square();
    private final Votes votes = new Votes();
    private final Ring circle = new Ring();
    private final Picker picker = new Picker();

    /** Nobody, DAY 0. */
    public KissesOwed() {
        hasImage = false;
        toldLength = 0;
    }

    // ---- what comes and changes

    /** A letter of a STREET comes: how many there are. */
    public int feed(int letter) {
        if (letter < 0) {
            return refuse(BELOW);
        }
        if (letter > GREATEST_LETTER || letters.size() >= MOST_LETTERS) {
            return refuse(ROOM);
        }
        letters.add(letter);
        return letters.size();
    }

    /** The letters are a STREET: how many STATEMENTS, or the FAULT. */
    public int street() {
        int answer = letters.tell(world);
        if (answer >= 0) {
            past.forget();
        }
        return answer;
    }

    /** Of one: KIND, FIGURE, KISSED, PURSE, towards whom he is UNWILLING. */
    public int person(int person, int what) {
        if (!world.isPerson(person)) {
            return refuse(NOBODY);
        }
        switch (what) {
            case 0:
                return world.kindOf(person);
            case 1:
                return world.figureOf(person);
            case 2:
                return world.kissedOf(person);
            case 3:
                return world.purseOf(person);
            case 4:
                return world.unwillingOf(person);
            default:
                return refuse(OTHER);
        }
    }

    /** Of a paper: DEBTOR, HOLDER, QUARTERS, DUE, FORGED, how it stands, WORTH. */
    public int paper(int paper, int what) {
        if (!world.isPaper(paper)) {
            return refuse(NOBODY);
        }
        switch (what) {
            case 0:
                return world.debtorOf(paper);
            case 1:
                return world.holderOf(paper);
            case 2:
                return world.quartersOf(paper);
            case 3:
                return world.dueOf(paper);
            case 4:
                return world.forgedOf(paper);
            case 5:
                return world.stateOf(paper);
            case 6:
                return world.worthOf(paper);
            default:
                return refuse(OTHER);
        }
    }

    /** The first is UNWILLING towards the other, or not any more: 1, 0. */
    public int unwilling(int one, int other) {
        if (!areTwo(one, other)) {
            return refuse(NOBODY);
        }
        world.flip(one, other);
        past.forget();
        return world.shuns(one, other) ? 1 : 0;
    }

    /** A paper more: its number. */
    public int owe(int debtor, int holder, int quarters, int due, int forged) {
        if (!areTwo(debtor, holder)) {
            return refuse(NOBODY);
        }
        if (forged != 0 && forged != 1) {
            return refuse(OTHER);
        }
        if (quarters < 1 || due < 0) {
            return refuse(BELOW);
        }
        if (!world.addPaper(debtor, holder, quarters, due, forged)) {
            return refuse(ROOM);
        }
        past.forget();
        return world.papers() - 1;
    }

    /** A paper is made over: 0 OPEN, 2 CANCELLED then. */
    public int over(int paper, int to) {
        if (!world.isPaper(paper) || !world.isPerson(to)) {
            return refuse(NOBODY);
        }
        int holder = world.holderOf(paper);
        if (!world.makeOver(paper, to)) {
            return refuse(STATE);
        }
        past.keep(paper, holder);
        return world.stateOf(paper);
    }

    /** A DAY goes by: DAY. */
    public int go() {
        int due = world.dueToday();
        if (!world.passDays(1)) {
            return refuse(ROOM);
        }
        past.keep(Past.A_DAY, due);
        return world.day();
    }

    /** The latest paper made over, or DAY gone by, is TAKEN BACK: DAY. */
    public int back() {
        if (!past.takeBack(world)) {
            return refuse(STATE);
        }
        return world.day();
    }

    // ---- who owes whom, and what settles it

    /** OWES of one to another. */
    public int owes(int one, int other) {
        if (!areTwo(one, other)) {
            return refuse(NOBODY);
        }
        ledger.read(world);
        return ledger.owed(one, other);
    }

    /** NET of one. */
    public int net(int person) {
        if (!world.isPerson(person)) {
            return REFUSED_NUMBER - refuse(NOBODY);
        }
        ledger.read(world);
        return ledger.netOf(person);
    }

    /** The fewest payments by which all NETS become 0. */
    public int payments() {
        ledger.read(world);
        return settlement.fewestPayments(ledger);
    }

    /** SETTLED THROUGH (what 0), THE CUT (1). */
    public int through(int what) {
        if (what != 0 && what != 1) {
            return refuse(OTHER);
        }
        ledger.read(world);
        company.look(world, NONE);
        return what == 0 ? settlement.settled(ledger, company) : settlement.cut(ledger, company);
    }

    /** The least OPEN paper, DUE on DAY or later, that would be LOST. */
    public int nobodyWill() {
        for (int p = 0; p < world.papers(); p++) {
            if (world.isOpen(p) && world.dueOf(p) >= world.day() && !world.wouldBePaid(p)) {
                return p;
            }
        }
        return NONE;
    }

    /** THE SQUARE: when all is done by rising twos (what 0), SOONEST (1). */
    public int square(int what) {
        if (what != 0 && what != 1) {
            return refuse(OTHER);
        }
        gatherSquare();
        if (what == 0) {
            return market.byRisingTwos();
        }
        if (market.twos() > MOST_ORDERED) {
            return refuse(STATE);
        }
        market.findSoonest();
        return market.soonestEnd();
    }

    /** The i-th two of the first SOONEST ORDER. */
    public int soonest(int i) {
        if (i < 0) {
            return refuse(BELOW);
        }
        gatherSquare();
        if (market.twos() > MOST_ORDERED) {
            return refuse(STATE);
        }
        if (i >= market.twos()) {
            return NONE;
        }
        market.findSoonest();
        return market.soonestTwo(i);
    }

    /** Who is longest in THE SQUARE. */
    public int busiest() {
        gatherSquare();
        return market.longestIn();
    }

    // ---- who gains by whom, and who decides

    /** GAIN by buying a DEBTOR. */
    public int gain(int buyer, int debtor) {
        if (!areTwo(buyer, debtor)) {
            return REFUSED_NUMBER - refuse(NOBODY);
        }
        return gainBy(world, buyer, debtor);
    }

    /** BEST to buy for one. */
    public int bestBuy(int buyer) {
        if (!world.isPerson(buyer)) {
            return refuse(NOBODY);
        }
        int best = NONE;
        int most = 0;
        for (int debtor = 0; debtor < world.people(); debtor++) {
            int gained = debtor == buyer ? 0 : gainBy(world, buyer, debtor);
            if (gained > most) {
                most = gained;
                best = debtor;
            }
        }
        return best;
    }

    /** SWINGS of one among the HOLDERS of a DEBTOR. */
    public int swings(int debtor, int holder) {
        if (!world.isPerson(debtor) || !world.isPerson(holder)) {
            return refuse(NOBODY);
        }
        votes.gather(world, debtor);
        return votes.setsDecidedBy(holder);
    }

    /** Who decides alone over a DEBTOR. */
    public int boss(int debtor) {
        if (!world.isPerson(debtor)) {
            return refuse(NOBODY);
        }
        votes.gather(world, debtor);
        return votes.decidesAlone();
    }

    /** The DEBTOR of whose OPEN QUARTERS one HOLDER has the greatest part. */
    public int corner() {
        int best = NONE;
        int bestPart = 0;
        int bestAll = 1;
        for (int debtor = 0; debtor < world.people(); debtor++) {
            votes.gather(world, debtor);
            int part = votes.greatest();
            if (part * bestAll > bestPart * votes.all()) {
                best = debtor;
                bestPart = part;
                bestAll = votes.all();
            }
        }
        return best;
    }

    /** The fewest looks by which of n papers the FORGED one, or none, is known. */
    public int looks(int n) {
        if (n < 0) {
            return refuse(BELOW);
        }
        if (n > 99) {
            return refuse(ROOM);
        }
        // n papers and none are n + 1 cases, and a look halves them at best
        int fewest = 0;
        while (fewest < 7 && (1 << fewest) < n + 1) {
            fewest++;
        }
        return fewest;
    }

    // ---- who kisses whom

    /** CHAIN from one to another. */
    public int chain(int one, int other) {
        if (!world.isPerson(one) || !world.isPerson(other)) {
            return refuse(NOBODY);
        }
        company.look(world, NONE);
        return company.steps(one, 1 << other);
    }

    /** Who is IN IT (bits). */
    public int inIt() {
        return insiders(world);
    }

    /** The fewest steps from one to somebody IN IT. */
    public int comesIn(int person) {
        if (!world.isPerson(person)) {
            return refuse(NOBODY);
        }
        company.look(world, NONE);
        return company.steps(person, insiders(world));
    }

    /** In how many ways they can have kissed as the ROW tells. */
    public int fits() {
        int n = toldLength / 2;
        if (n < 2 || n > 4 || toldLength != 2 * n || n > world.people()) {
            return refuse(STATE);
        }
        int wanted = 0;
        for (int i = 0; i < n; i++) {
            wanted |= at(told, n + i) << WANTED_BITS * i;
        }
        return kissings(world, told, n, 0, wanted);
    }

    // ---- deaths and holdings

    /** How likely the DEBTOR of a paper lives to its DUE: part 0 above, 1 below the line. */
    public long deaths(int paper, int t, int part) {
        if (!world.isPaper(paper)) {
            return refuseLong(NOBODY);
        }
        if (t < 2) {
            return refuseLong(BELOW);
        }
        if (t > 20) {
            return refuseLong(ROOM);
        }
        if (part != 0 && part != 1) {
            return refuseLong(OTHER);
        }
        int days = world.dueOf(paper) - world.day();
        if (!world.isOpen(paper) || days < 0 || days > 12) {
            return refuseLong(STATE);
        }
        // t - 1 and t have no factor in common, so the powers are lowest terms
        long power = 1;
        for (int i = 0; i < days; i++) {
            power *= part == 0 ? t - 1 : t;
        }
        return power;
    }

    /** The set of k of one's papers, of unlike DEBTORS, with the most WORTH. */
    public int hold(int person, int k) {
        if (!world.isPerson(person)) {
            return refuse(NOBODY);
        }
        if (k < 0) {
            return refuse(BELOW);
        }
        if (k > 3) {
            return refuse(ROOM);
        }
        picker.start(true);
        for (int p = 0; p < world.papers(); p++) {
            if (world.isOpen(p) && world.holderOf(p) == person) {
                picker.offer(p, world.worthOf(p), 1 << world.debtorOf(p));
            }
        }
        picker.choose(k);
        return picker.found() ? picker.bits() : NONE;
    }

    // ---- rings, and who stands between

    /** The shortest RING: how long (i -1), its i-th. */
    public int ring(int i) {
        if (i < -1) {
            return refuse(BELOW);
        }
        ledger.read(world);
        circle.find(ledger);
        if (circle.size() == 0) {
            return NONE;
        }
        if (i == -1) {
            return circle.size();
        }
        return i < circle.size() ? circle.member(i) : NONE;
    }

    /** How much all in the RING could forgive. */
    public int round() {
        ledger.read(world);
        circle.find(ledger);
        return circle.size() == 0 ? NONE : circle.least(ledger);
    }

    /** The one whose being UNWILLING, and being shunned, stands most between. */
    public int stands() {
        ledger.read(world);
        company.look(world, NONE);
        int most = settlement.settled(ledger, company);
        int best = NONE;
        for (int one = 0; one < world.people(); one++) {
            company.look(world, one);
            int then = settlement.settled(ledger, company);
            if (then > most) {
                most = then;
                best = one;
            }
        }
        return best;
    }

    // ---- what falls due

    /** The first DAY behind which one's KISSED is v or more. */
    public int rich(int person, int v) {
        if (!world.isPerson(person)) {
            return refuse(NOBODY);
        }
        if (v < 0) {
            return refuse(BELOW);
        }
        if (v > 999) {
            return refuse(ROOM);
        }
        int kissed = world.kissedOf(person);
        for (int day = world.day(); day < LAST_DAY; day++) {
            kissed += paidOn(world, day, person);
            if (kissed >= v) {
                return day;
            }
        }
        return NONE;
    }

    /** The greatest DUE of OPEN papers. */
    public int last() {
        int latest = NONE;
        for (int p = 0; p < world.papers(); p++) {
            if (world.isOpen(p)) {
                latest = Math.max(latest, world.dueOf(p));
            }
        }
        return latest;
    }

    /** QUARTERS that would be PAID from now to DAY n. */
    public int paidBy(int n) {
        if (n < world.day()) {
            return refuse(BELOW);
        }
        if (n > LAST_DUE) {
            return refuse(ROOM);
        }
        int paid = 0;
        for (int day = world.day(); day <= n; day++) {
            paid += paidOn(world, day, NONE);
        }
        return paid;
    }

    /** The two papers by whose change of HOLDERS two PURSES are most alike. */
    public int trade(int one, int other) {
        if (!areTwo(one, other)) {
            return refuse(NOBODY);
        }
        int apart = world.purseOf(one) - world.purseOf(other);
        int least = Math.abs(apart);
        int best = NONE;
        for (int mine = 0; mine < world.papers(); mine++) {
            for (int his = 0; his < world.papers(); his++) {
                if (!canChange(world, mine, one, other) || !canChange(world, his, other, one)) {
                    continue;
                }
                int then = Math.abs(apart - 2 * world.worthOf(mine) + 2 * world.worthOf(his));
                if (then < least) {
                    least = then;
                    best = 100 * mine + his;
                }
            }
        }
        return best;
    }

    /** By how much all other PURSES would be less, were one dead. */
    public int heirs(int person) {
        if (!world.isPerson(person)) {
            return refuse(NOBODY);
        }
        int less = 0;
        for (int p = 0; p < world.papers(); p++) {
            if (world.debtorOf(p) == person) {
                less += world.worthOf(p);
            }
        }
        return less;
    }

    // ---- what can not go on, and what would help

    /** The OPEN papers (bits) that nobody but HOLDER and DEBTOR could have. */
    public int stuck() {
        int bits = 0;
        for (int p = 0; p < world.papers(); p++) {
            if (world.isOpen(p) && !othersCouldTake(world, p)) {
                bits |= 1 << p;
            }
        }
        return bits;
    }

    /** What each two could cancel, all together. */
    public int cancels() {
        ledger.read(world);
        int sum = 0;
        for (int one = 0; one < world.people(); one++) {
            for (int other = one + 1; other < world.people(); other++) {
                sum += Math.min(ledger.owed(one, other), ledger.owed(other, one));
            }
        }
        return sum;
    }

    /** The paper and to whom that, made over, makes PAYMENTS fewest. */
    public int bestOver() {
        ledger.read(world);
        int fewest = settlement.fewestPayments(ledger);
        int best = NONE;
        for (int p = 0; p < world.papers(); p++) {
            for (int to = 0; to < world.people(); to++) {
                if (!world.canTake(p, to)) {
                    continue;
                }
                // even to its DEBTOR: what he owes no more is as much as what he would get
                ledger.shift(world.holderOf(p), to, world.quartersOf(p));
                int then = settlement.fewestPayments(ledger);
                ledger.shift(to, world.holderOf(p), world.quartersOf(p));
                if (then < fewest) {
                    fewest = then;
                    best = 10 * p + to;
                }
            }
        }
        return best;
    }

    /** The fewest papers of one that, LOST, leave his NET 0 or more: how many (what 0), bits (1). */
    public int relieved(int person, int what) {
        if (!world.isPerson(person)) {
            return refuse(NOBODY);
        }
        if (what != 0 && what != 1) {
            return refuse(OTHER);
        }
        ledger.read(world);
        int need = Math.max(0, -ledger.netOf(person));
        int fewest = fewestDebts(world, person, need);
        return what == 0 ? fewest : leastDebts(world, person, need, fewest);
    }

    /** POWER of one among the HOLDERS of a DEBTOR: part 0 above, 1 below the line. */
    public long power(int debtor, int holder, int part) {
        if (!world.isPerson(debtor) || !world.isPerson(holder)) {
            return refuseLong(NOBODY);
        }
        if (part != 0 && part != 1) {
            return refuseLong(OTHER);
        }
        votes.gather(world, debtor);
        int above = votes.ordersDecidedBy(holder);
        int below = votes.orders();
        int common = commonDivisor(above, below);
        if (common <= 0) {
            return part;
        }
        return part == 0 ? above / common : below / common;
    }

    /** The most twos of THE SQUARE that can settle at one time. */
    public int atOnce() {
        gatherSquare();
        return market.mostAtOnce(world.people());
    }

    /** The fewest times in which all twos of THE SQUARE have settled. */
    public int rounds() {
        gatherSquare();
        if (market.twos() > MOST_ORDERED) {
            return refuse(STATE);
        }
        return market.fewestRounds();
    }

    /** HEAVIEST: bits (what 0), QUARTERS (1). */
    public int heaviest(int what) {
        if (what != 0 && what != 1) {
            return refuse(OTHER);
        }
        if (world.openPapers() > MOST_WEIGHED) {
            return refuse(STATE);
        }
        picker.start(false);
        for (int p = 0; p < world.papers(); p++) {
            if (world.isOpen(p)) {
                picker.offer(p, world.quartersOf(p),
                        1 << world.debtorOf(p) | 1 << MOST_PEOPLE + world.holderOf(p));
            }
        }
        picker.choose(MOST_WEIGHED);
        return what == 0 ? picker.bits() : picker.sum();
    }

    // ---- the ROW, the lots, the image

    /** A number more of the ROW: how many. */
    public int row(int v) {
        if (v < 0) {
            return refuse(BELOW);
        }
        if (v > 99 || toldLength >= MOST_IN_ROW) {
            return refuse(ROOM);
        }
        put(told, toldLength, v);
        toldLength++;
        return toldLength;
    }

    /** The first number of the ROW that is not the WORTH of its paper. */
    public int judge() {
        int n = toldLength;
        toldLength = 0;
        for (int i = 0; i < n; i++) {
            if (!world.isPaper(i) || world.worthOf(i) != at(told, i)) {
                return i;
            }
        }
        return NONE;
    }

    /** The ROW has none then: how many it had. */
    public int clear() {
        int n = toldLength;
        toldLength = 0;
        return n;
    }

    /** n years by LOT with a seed z: all QUARTERS PAID in these. */
    public int lots(int n, int z) {
        if (n < 1) {
            return refuse(BELOW);
        }
        if (n > 20) {
            return refuse(ROOM);
        }
        int seed = z;
        int paid = 0;
        for (int year = 0; year < n; year++) {
            for (int p = 0; p < world.papers(); p++) {
                if (!world.isOpen(p)) {
                    continue;
                }
                seed = seed * 1103515245 + 12345;
                int due = ((seed & 0x7fffffff) >> 16) % (LAST_DUE + 1);
                if (due >= world.day() && world.wouldBePaid(p)) {
                    paid += world.quartersOf(p);
                }
            }
        }
        return paid;
    }

    /** THE IMAGE is taken: DAY. */
    public int image() {
        imaged.copyFrom(world);
        hasImage = true;
        return world.day();
    }

    /** THE IMAGE is RESTORED: DAY. */
    public int restore() {
        if (!hasImage) {
            return refuse(STATE);
        }
        world.copyFrom(imaged);
        past.forget();
        return world.day();
    }

    /** How many there are of what. */
    public int count(int what) {
        switch (what) {
            case 0:
                return world.people();
            case 1:
                return world.papers();
            case 2:
                return world.day();
            case 3:
                return world.openPapers();
            case 4:
                return world.allKissed();
            case 5:
                return letters.size();
            case 6:
                return toldLength;
            case 7:
                return past.size();
            default:
                return what >= 11 && what <= 16 ? at(refusals, what - 10) : NONE;
        }
    }

    // ---- helpers of the face

    private int refuse(int number) {
        put(refusals, -number, at(refusals, -number) + 1);
        return number;
    }

    private long refuseLong(int number) {
        return REFUSED_LONG - refuse(number);
    }

    private boolean areTwo(int one, int other) {
        return world.isPerson(one) && world.isPerson(other) && one != other;
    }

    private void gatherSquare() {
        ledger.read(world);
        market.gather(ledger);
    }

    /** What a buyer gains by all OPEN papers of a DEBTOR that others hold. */
    private static int gainBy(World world, int buyer, int debtor) {
        if (world.shuns(buyer, debtor)) {
            return 0;
        }
        int gained = 0;
        for (int p = 0; p < world.papers(); p++) {
            if (world.isOpen(p) && world.debtorOf(p) == debtor && world.holderOf(p) != buyer) {
                int got = world.forgedOf(p) == 0 ? world.quartersOf(p) : 0;
                gained += got - world.worthOf(p);
            }
        }
        return gained;
    }

    private static int insiders(World world) {
        int bits = 0;
        for (int p = 0; p < world.papers(); p++) {
            if (world.isOpen(p)) {
                bits |= 1 << world.debtorOf(p) | 1 << world.holderOf(p);
            }
        }
        return bits;
    }

    /** QUARTERS that would be PAID on one DAY, to one HOLDER or, with NONE, to all. */
    private static int paidOn(World world, int day, int holder) {
        int paid = 0;
        for (int p = 0; p < world.papers(); p++) {
            boolean his = holder == NONE || world.holderOf(p) == holder;
            if (his && world.isOpen(p) && world.dueOf(p) == day && world.wouldBePaid(p)) {
                paid += world.quartersOf(p);
            }
        }
        return paid;
    }

    /** Whether a paper can go from its HOLDER to another, who is not its DEBTOR. */
    private static boolean canChange(World world, int paper, int from, int to) {
        return world.holderOf(paper) == from && world.debtorOf(paper) != to && world.canTake(paper, to);
    }

    private static boolean othersCouldTake(World world, int paper) {
        for (int to = 0; to < world.people(); to++) {
            if (to != world.debtorOf(paper) && world.canTake(paper, to)) {
                return true;
            }
        }
        return false;
    }

    // ---- RELIEVED

    private static boolean isDebtOf(World world, int paper, int one) {
        return world.isOpen(paper) && world.debtorOf(paper) == one;
    }

    /** What one's m largest debts come to, of his papers with numbers below a bound. */
    private static int largestDebts(World world, int one, int below, int m) {
        int taken = 0;
        int sum = 0;
        for (int k = 0; k < m && k < MOST_PAPERS; k++) {
            int largest = NONE;
            for (int p = 0; p < below; p++) {
                boolean free = isDebtOf(world, p, one) && !has(taken, p);
                if (free && (largest == NONE || world.quartersOf(p) > world.quartersOf(largest))) {
                    largest = p;
                }
            }
            if (largest == NONE) {
                return sum;
            }
            taken |= 1 << largest;
            sum += world.quartersOf(largest);
        }
        return sum;
    }

    private static int fewestDebts(World world, int one, int need) {
        int m = 0;
        while (m < MOST_PAPERS && largestDebts(world, one, world.papers(), m) < need) {
            m++;
        }
        return m;
    }

    /** The least bits of so many debts that come to the need: a high paper is taken just if it must be. */
    private static int leastDebts(World world, int one, int need, int many) {
        int bits = 0;
        int lacking = need;
        int left = many;
        for (int p = world.papers() - 1; p >= 0; p--) {
            if (isDebtOf(world, p, one) && largestDebts(world, one, p, left) < lacking) {
                bits |= 1 << p;
                lacking -= world.quartersOf(p);
                left--;
            }
        }
        return bits;
    }

    // ---- FITS

    /**
     * The ways in which those from one on can kiss so that each gets what he still wants. Each one's want and kisses
     * differ by less than 128, so nothing is left of the number just if nothing is left of each one's want.
     */
    private static int kissings(World world, int[] told, int n, int one, int wanted) {
        if (one >= n || one >= 4) {
            return wanted == 0 ? 1 : 0;
        }
        int ways = 0;
        int barred = 1 << one | world.unwillingOf(one);
        for (int set = 0; set < 1 << n; set++) {
            if ((set & barred) == 0 && Integer.bitCount(set) == at(told, one)) {
                ways += kissings(world, told, n, one + 1, wanted - oneEach(set, n));
            }
        }
        return ways;
    }

    private static int oneEach(int set, int n) {
        int sum = 0;
        for (int i = 0; i < n; i++) {
            if (has(set, i)) {
                sum += 1 << WANTED_BITS * i;
            }
        }
        return sum;
    }

    // ---- small things that all use

    private static int at(int[] cells, int i) {
        if (cells == null || i < 0 || i >= cells.length) {
            return 0;
        }
        return cells[i];
    }

    private static void put(int[] cells, int i, int value) {
        if (cells == null || i < 0 || i >= cells.length) {
            return;
        }
        cells[i] = value;
    }

    private static void increase(int[] cells, int i, int value) {
        put(cells, i, at(cells, i) + value);
    }

    private static void fill(int[] cells, int value) {
        if (cells == null) {
            return;
        }
        for (int i = 0; i < cells.length; i++) {
            cells[i] = value;
        }
    }

    private static void copy(int[] from, int[] to) {
        if (from == null || to == null) {
            return;
        }
        for (int i = 0; i < to.length && i < from.length; i++) {
            to[i] = from[i];
        }
    }

    private static boolean has(int set, int i) {
        return i >= 0 && i < 31 && (set >> i & 1) != 0;
    }

    private static int commonDivisor(int a, int b) {
        int greater = a;
        int lesser = b;
        // Euclid's steps over ints are fewer than fifty
        for (int i = 0; i < 50 && lesser != 0; i++) {
            int rest = greater % lesser;
            greater = lesser;
            lesser = rest;
        }
        return greater;
    }

    /** All that there is of part I but letters: people, papers, DAY. */
    private static final class World {
        private int people;
        private int papers;
        private int day;
        private final int[] kinds = new int[MOST_PEOPLE];
        private final int[] figures = new int[MOST_PEOPLE];
        private final int[] kissed = new int[MOST_PEOPLE];
        private final int[] unwillings = new int[MOST_PEOPLE];
        private final int[] debtors = new int[MOST_PAPERS];
        private final int[] holders = new int[MOST_PAPERS];
        private final int[] quarters = new int[MOST_PAPERS];
        private final int[] dues = new int[MOST_PAPERS];
        private final int[] forgeds = new int[MOST_PAPERS];
        private final int[] states = new int[MOST_PAPERS];

        int people() {
            return people;
        }

        int papers() {
            return papers;
        }

        int day() {
            return day;
        }

        boolean isPerson(int one) {
            return one >= 0 && one < people;
        }

        boolean isPaper(int paper) {
            return paper >= 0 && paper < papers;
        }

        int kindOf(int one) {
            return at(kinds, one);
        }

        int figureOf(int one) {
            return at(figures, one);
        }

        int kissedOf(int one) {
            return at(kissed, one);
        }

        int unwillingOf(int one) {
            return at(unwillings, one);
        }

        int debtorOf(int paper) {
            return at(debtors, paper);
        }

        int holderOf(int paper) {
            return at(holders, paper);
        }

        int quartersOf(int paper) {
            return at(quarters, paper);
        }

        int dueOf(int paper) {
            return at(dues, paper);
        }

        int forgedOf(int paper) {
            return at(forgeds, paper);
        }

        int stateOf(int paper) {
            return at(states, paper);
        }

        boolean isOpen(int paper) {
            return isPaper(paper) && at(states, paper) == OPEN;
        }

        boolean shuns(int one, int other) {
            return has(at(unwillings, one), other);
        }

        boolean friendly(int one, int other) {
            return !has(at(unwillings, one), other) && !has(at(unwillings, other), one);
        }

        boolean wouldBePaid(int paper) {
            return at(forgeds, paper) == 0 && friendly(at(debtors, paper), at(holders, paper));
        }

        boolean canTake(int paper, int to) {
            return isOpen(paper) && isPerson(to) && at(holders, paper) != to && !shuns(to, at(debtors, paper));
        }

        /** WORTH of a paper by the KIND of its DEBTOR. */
        int worthOf(int paper) {
            if (!isOpen(paper)) {
                return 0;
            }
            int whole = at(quarters, paper);
            int hundredths = Math.min(100, 2 * Math.max(0, at(dues, paper) - day));
            int later = whole - whole * hundredths / 100;
            int debtor = at(debtors, paper);
            switch (at(kinds, debtor)) {
                case AUNT:
                    return whole;
                case SAILOR:
                    return later / 2;
                case SHY:
                    return Math.max(0, later - at(figures, debtor));
                case WIDOW:
                    return whole - whole / 10;
                case FORGER:
                    return at(forgeds, paper) == 1 ? 0 : later / 2;
                default:
                    return later;
            }
        }

        int purseOf(int one) {
            int purse = 0;
            for (int p = 0; p < papers; p++) {
                if (at(holders, p) == one) {
                    purse += worthOf(p);
                }
            }
            return purse;
        }

        int openPapers() {
            int n = 0;
            for (int p = 0; p < papers; p++) {
                if (isOpen(p)) {
                    n++;
                }
            }
            return n;
        }

        int allKissed() {
            int sum = 0;
            for (int i = 0; i < people; i++) {
                sum += at(kissed, i);
            }
            return sum;
        }

        boolean addPerson(int kind, int figure) {
            if (kind < 0 || kind > FORGER || figure < 0 || figure > 9 || people >= MOST_PEOPLE) {
                return false;
            }
            put(kinds, people, kind);
            put(figures, people, figure);
            put(kissed, people, 0);
            put(unwillings, people, 0);
            people++;
            return true;
        }

        boolean flip(int one, int other) {
            if (!isPerson(one) || !isPerson(other) || one == other) {
                return false;
            }
            put(unwillings, one, at(unwillings, one) ^ 1 << other);
            return true;
        }

        boolean addPaper(int debtor, int holder, int many, int due, int forged) {
            if (!isPerson(debtor) || !isPerson(holder) || debtor == holder || papers >= MOST_PAPERS) {
                return false;
            }
            if (many < 1 || many > MOST_QUARTERS || due < 0 || due > LAST_DUE) {
                return false;
            }
            put(debtors, papers, debtor);
            put(holders, papers, holder);
            put(quarters, papers, many);
            put(dues, papers, due);
            put(forgeds, papers, forged);
            put(states, papers, OPEN);
            papers++;
            return true;
        }

        boolean makeOver(int paper, int to) {
            if (!canTake(paper, to)) {
                return false;
            }
            put(holders, paper, to);
            if (at(debtors, paper) == to) {
                put(states, paper, CANCELLED);
            }
            return true;
        }

        void takeOverBack(int paper, int holder) {
            put(holders, paper, holder);
            put(states, paper, OPEN);
        }

        /** The OPEN papers (bits) that are DUE on DAY. */
        int dueToday() {
            int bits = 0;
            for (int p = 0; p < papers; p++) {
                if (isOpen(p) && at(dues, p) == day) {
                    bits |= 1 << p;
                }
            }
            return bits;
        }

        boolean passDays(int n) {
            if (n < 0 || n > LAST_DAY - day) {
                return false;
            }
            for (int i = 0; i < n; i++) {
                int due = dueToday();
                for (int p = 0; p < papers; p++) {
                    boolean falls = has(due, p);
                    if (falls && wouldBePaid(p)) {
                        increase(kissed, at(holders, p), at(quarters, p));
                        put(states, p, PAID);
                    } else if (falls) {
                        put(states, p, LOST);
                    }
                }
                day++;
            }
            return true;
        }

        /** The DAY on which just these papers fell due is as it was. */
        void takeDayBack(int fallen) {
            for (int p = 0; p < papers; p++) {
                if (!has(fallen, p)) {
                    continue;
                }
                if (at(states, p) == PAID) {
                    increase(kissed, at(holders, p), -at(quarters, p));
                }
                put(states, p, OPEN);
            }
            day = Math.max(0, day - 1);
        }

        void copyFrom(World other) {
            if (other == null) {
                return;
            }
            people = other.people;
            papers = other.papers;
            day = other.day;
            copy(other.kinds, kinds);
            copy(other.figures, figures);
            copy(other.kissed, kissed);
            copy(other.unwillings, unwillings);
            copy(other.debtors, debtors);
            copy(other.holders, holders);
            copy(other.quarters, quarters);
            copy(other.dues, dues);
            copy(other.forgeds, forgeds);
            copy(other.states, states);
        }
    }

    /** The latest papers made over and DAYS gone by, so that they can be TAKEN BACK. */
    private static final class Past {
        private static final int A_DAY = -1;
        private final int[] papers = new int[MOST_TAKEN_BACK];
        /** The former HOLDER of a paper made over; of a DAY the papers (bits) that fell due on it. */
        private final int[] formers = new int[MOST_TAKEN_BACK];
        private int oldest;
        private int size;

        int size() {
            return size;
        }

        void forget() {
            size = 0;
        }

        void keep(int paper, int former) {
            if (size >= MOST_TAKEN_BACK) {
                oldest = (oldest + 1) % MOST_TAKEN_BACK;
                size--;
            }
            int place = (oldest + size) % MOST_TAKEN_BACK;
            put(papers, place, paper);
            put(formers, place, former);
            size++;
        }

        boolean takeBack(World world) {
            if (world == null || size <= 0) {
                return false;
            }
            size--;
            int place = (oldest + size) % MOST_TAKEN_BACK;
            if (at(papers, place) == A_DAY) {
                world.takeDayBack(at(formers, place));
            } else {
                world.takeOverBack(at(papers, place), at(formers, place));
            }
            return true;
        }
    }

    /** The letters of a STREET. */
    private static final class Letters {
        private static final int UNFIT = -1000;
        private static final int WRONG = -2000;
        private static final int NO_FAULT = -1;
        private final int[] letters = new int[MOST_LETTERS];
        private int size;
        private final World draft = new World();

        int size() {
            return size;
        }

        void add(int letter) {
            if (size < MOST_LETTERS) {
                put(letters, size, letter);
                size++;
            }
        }

        /** How many STATEMENTS came, or the FAULT; the letters are no more then. */
        int tell(World world) {
            int unfit = firstUnfit();
            int end = size;
            size = 0;
            if (unfit != NO_FAULT) {
                return UNFIT - unfit;
            }
            draft.copyFrom(world);
            int statements = 0;
            int start = 0;
            for (int round = 0; round < MOST_LETTERS && start < end; round++) {
                if (!comes(start)) {
                    return WRONG - start;
                }
                statements++;
                start += formOf(at(letters, start)).length();
            }
            world.copyFrom(draft);
            return statements;
        }

        /** The place of the first letter with which no STREET can go on. */
        private int firstUnfit() {
            int start = 0;
            // a STATEMENT has letters, so there are not more rounds than letters
            for (int round = 0; round < MOST_LETTERS && start < size; round++) {
                String form = formOf(at(letters, start));
                if (form.isEmpty()) {
                    return start;
                }
                for (int i = 0; i < form.length(); i++) {
                    if (start + i >= size || !suits(form.charAt(i), at(letters, start + i))) {
                        return start + i;
                    }
                }
                start += form.length();
            }
            return start == 0 ? 0 : NO_FAULT;
        }

        /** How a STATEMENT is written: 9 stands for a digit, = for "=" or "x". */
        private static String formOf(int letter) {
            switch (letter) {
                case 'p':
                    return "p99;";
                case 'u':
                    return "u99;";
                case 'o':
                    return "o999999=;";
                case 'm':
                    return "m999;";
                case 'd':
                    return "d9;";
                default:
                    return "";
            }
        }

        private static boolean suits(char form, int letter) {
            if (form == '9') {
                return letter >= '0' && letter <= '9';
            }
            if (form == '=') {
                return letter == '=' || letter == 'x';
            }
            return letter == form;
        }

        /** Whether the STATEMENT at a place is as it must be; it comes in the draft then. */
        private boolean comes(int start) {
            switch (at(letters, start)) {
                case 'p':
                    return draft.addPerson(digit(start + 1), digit(start + 2));
                case 'u':
                    return draft.flip(digit(start + 1), digit(start + 2));
                case 'o':
                    return draft.addPaper(digit(start + 1), digit(start + 2), twoDigits(start + 3),
                            twoDigits(start + 5), at(letters, start + 7) == 'x' ? 1 : 0);
                case 'm':
                    return draft.makeOver(twoDigits(start + 1), digit(start + 3));
                case 'd':
                    return draft.passDays(digit(start + 1));
                default:
                    return false;
            }
        }

        private int digit(int place) {
            return at(letters, place) - '0';
        }

        private int twoDigits(int place) {
            return 10 * digit(place) + digit(place + 1);
        }
    }

    /** OWES and NETS by the OPEN papers, as they were when last read. */
    private static final class Ledger {
        private final int[] owed = new int[SQUARED];
        private final int[] nets = new int[MOST_PEOPLE];
        private int people;

        void read(World world) {
            fill(owed, 0);
            fill(nets, 0);
            people = world.people();
            for (int p = 0; p < world.papers(); p++) {
                if (world.isOpen(p)) {
                    int debtor = world.debtorOf(p);
                    int holder = world.holderOf(p);
                    increase(owed, MOST_PEOPLE * debtor + holder, world.quartersOf(p));
                    shift(debtor, holder, world.quartersOf(p));
                }
            }
        }

        int people() {
            return people;
        }

        int owed(int one, int other) {
            return at(owed, MOST_PEOPLE * one + other);
        }

        int netOf(int one) {
            return at(nets, one);
        }

        /** So much of the NET of one becomes another's. */
        void shift(int from, int to, int many) {
            increase(nets, from, -many);
            increase(nets, to, many);
        }
    }

    /** Who can come to whom: neither of the two is UNWILLING towards the other one. */
    private static final class Company {
        private final int[] friends = new int[MOST_PEOPLE];
        private int people;

        /** As it is, but that one (or NONE) is taken to be UNWILLING towards nobody, and nobody towards him. */
        void look(World world, int pardoned) {
            people = world.people();
            for (int one = 0; one < people; one++) {
                int bits = 0;
                for (int other = 0; other < people; other++) {
                    boolean free = one == pardoned || other == pardoned;
                    if (one != other && (free || world.friendly(one, other))) {
                        bits |= 1 << other;
                    }
                }
                put(friends, one, bits);
            }
        }

        /** A set and all to whom somebody of it comes in one step. */
        private int around(int set) {
            int wider = set;
            for (int one = 0; one < people; one++) {
                if (has(set, one)) {
                    wider |= at(friends, one);
                }
            }
            return wider;
        }

        /** All to whom one comes, he too. */
        int allFrom(int one) {
            int set = 1 << one;
            for (int step = 0; step < people; step++) {
                set = around(set);
            }
            return set;
        }

        /** The fewest steps from one to somebody of a set. */
        int steps(int one, int goal) {
            int set = 1 << one;
            for (int step = 0; step <= people; step++) {
                if ((set & goal) != 0) {
                    return step;
                }
                set = around(set);
            }
            return NONE;
        }
    }

    /** What settles the NETS of a ledger. */
    private static final class Settlement {
        private final int[] lasting = new int[MOST_PEOPLE];
        private final int[] sums = new int[SETS];
        private final int[] groups = new int[SETS];

        /**
         * People whose NETS together come to 0 settle by one payment less than they are, and no fewer; so the
         * most groups of that kind make the fewest payments.
         */
        int fewestPayments(Ledger ledger) {
            int n = 0;
            for (int i = 0; i < ledger.people(); i++) {
                if (ledger.netOf(i) != 0) {
                    put(lasting, n, ledger.netOf(i));
                    n++;
                }
            }
            put(sums, 0, 0);
            put(groups, 0, 0);
            for (int last = 0; last < n; last++) {
                for (int set = 1 << last; set < 2 << last; set++) {
                    int sum = at(sums, set ^ 1 << last) + at(lasting, last);
                    put(sums, set, sum);
                    put(groups, set, sum == 0 ? mostGroups(set, last) : 0);
                }
            }
            return n - at(groups, (1 << n) - 1);
        }

        /** Into how many groups a set falls that comes to 0: one group has the last, what is left comes to 0 too. */
        private int mostGroups(int set, int last) {
            int most = 0;
            for (int group = 1 << last; group <= set; group++) {
                if ((group & ~set) == 0 && at(sums, group) == 0) {
                    most = Math.max(most, 1 + at(groups, set ^ group));
                }
            }
            return most;
        }

        /** Within a company all goes without bound, so it settles the lesser of what is given and taken. */
        int settled(Ledger ledger, Company company) {
            int all = 0;
            int seen = 0;
            for (int one = 0; one < ledger.people(); one++) {
                if (!has(seen, one)) {
                    int set = company.allFrom(one);
                    seen |= set;
                    all += Math.min(given(ledger, set), taken(ledger, set));
                }
            }
            return all;
        }

        /** Where more could be given than is taken, somebody can give more still, and come to all there. */
        int cut(Ledger ledger, Company company) {
            int bits = 0;
            for (int one = 0; one < ledger.people(); one++) {
                int set = company.allFrom(one);
                if (given(ledger, set) > taken(ledger, set)) {
                    bits |= set;
                }
            }
            return bits;
        }

        private static int given(Ledger ledger, int set) {
            int sum = 0;
            for (int i = 0; i < ledger.people(); i++) {
                if (has(set, i)) {
                    sum += Math.max(0, -ledger.netOf(i));
                }
            }
            return sum;
        }

        private static int taken(Ledger ledger, int set) {
            int sum = 0;
            for (int i = 0; i < ledger.people(); i++) {
                if (has(set, i)) {
                    sum += Math.max(0, ledger.netOf(i));
                }
            }
            return sum;
        }
    }

    /** THE SQUARE: its twos, and in which order they settle. */
    private static final class Square {
        private int twos;
        private final int[] lessers = new int[MOST_TWOS];
        private final int[] others = new int[MOST_TWOS];
        private final int[] minutes = new int[MOST_TWOS];
        /** When each one is free, and how many minutes are ahead of him in twos not yet told. */
        private final int[] free = new int[MOST_PEOPLE];
        private final int[] ahead = new int[MOST_PEOPLE];
        private final int[] order = new int[MOST_ORDERED];
        private final int[] soonestOrder = new int[MOST_ORDERED];
        private int end;
        private final int[] most = new int[SETS];
        private final int[] meant = new int[SETS];

        void gather(Ledger ledger) {
            twos = 0;
            fill(ahead, 0);
            for (int one = 0; one < ledger.people(); one++) {
                for (int other = one + 1; other < ledger.people(); other++) {
                    int there = ledger.owed(one, other);
                    int here = ledger.owed(other, one);
                    if (there > 0 || here > 0) {
                        addTwo(one, other, Math.max(2, Math.abs(there - here)));
                    }
                }
            }
        }

        private void addTwo(int one, int other, int time) {
            put(lessers, twos, one);
            put(others, twos, other);
            put(minutes, twos, time);
            increase(ahead, one, time);
            increase(ahead, other, time);
            twos++;
        }

        int twos() {
            return twos;
        }

        int longestIn() {
            int best = NONE;
            int longest = 0;
            for (int i = 0; i < MOST_PEOPLE; i++) {
                if (at(ahead, i) > longest) {
                    longest = at(ahead, i);
                    best = i;
                }
            }
            return best;
        }

        int byRisingTwos() {
            fill(free, 0);
            int latest = 0;
            for (int t = 0; t < twos; t++) {
                int done = doneAt(t);
                put(free, at(lessers, t), done);
                put(free, at(others, t), done);
                latest = Math.max(latest, done);
            }
            return latest;
        }

        /** When a two is done, told behind those by whom its people are busy. */
        private int doneAt(int two) {
            return Math.max(at(free, at(lessers, two)), at(free, at(others, two))) + at(minutes, two);
        }

        void findSoonest() {
            fill(free, 0);
            end = FAR;
            tryRest(this, 0, 0);
        }

        int soonestEnd() {
            return end;
        }

        int soonestTwo(int i) {
            int two = at(soonestOrder, i);
            return 10 * at(lessers, two) + at(others, two);
        }

        /** Tries all ORDERS with the same beginning, the least first, so the first of the soonest stays. */
        private static void tryRest(Square square, int depth, int used) {
            int least = square.notSoonerThan();
            if (least >= square.end || depth > MOST_ORDERED) {
                return;
            }
            if (depth >= square.twos) {
                square.end = least;
                copy(square.order, square.soonestOrder);
                return;
            }
            for (int t = 0; t < square.twos; t++) {
                if (has(used, t)) {
                    continue;
                }
                int one = at(square.lessers, t);
                int other = at(square.others, t);
                int freeOne = at(square.free, one);
                int freeOther = at(square.free, other);
                square.tellTwo(t, square.doneAt(t), square.doneAt(t), -at(square.minutes, t));
                put(square.order, depth, t);
                tryRest(square, depth + 1, used | 1 << t);
                square.tellTwo(t, freeOne, freeOther, at(square.minutes, t));
            }
        }

        private void tellTwo(int two, int freeOne, int freeOther, int more) {
            put(free, at(lessers, two), freeOne);
            put(free, at(others, two), freeOther);
            increase(ahead, at(lessers, two), more);
            increase(ahead, at(others, two), more);
        }

        /** Nobody is done sooner than what is still ahead of him takes. */
        private int notSoonerThan() {
            int least = 0;
            for (int i = 0; i < MOST_PEOPLE; i++) {
                least = Math.max(least, at(free, i) + at(ahead, i));
            }
            return least;
        }

        /** The most twos at once within each set of people: the last of the set settles with one, or not. */
        int mostAtOnce(int people) {
            fill(meant, 0);
            for (int t = 0; t < twos; t++) {
                int both = 1 << at(lessers, t) | 1 << at(others, t);
                put(meant, both, 1);
            }
            put(most, 0, 0);
            for (int last = 0; last < people; last++) {
                for (int set = 1 << last; set < 2 << last; set++) {
                    int rest = set ^ 1 << last;
                    put(most, set, Math.max(at(most, rest), withPartner(rest, last)));
                }
            }
            return at(most, (1 << people) - 1);
        }

        private int withPartner(int rest, int last) {
            int best = 0;
            for (int i = 0; i < last; i++) {
                if (has(rest, i) && at(meant, 1 << i | 1 << last) == 1) {
                    best = Math.max(best, 1 + at(most, rest ^ 1 << i));
                }
            }
            return best;
        }

        /** The fewest rounds for each set of twos: one round of it, and what is left in the fewest. */
        int fewestRounds() {
            put(meant, 0, 0);
            put(most, 0, 0);
            for (int last = 0; last < twos && last < MOST_ORDERED; last++) {
                for (int set = 1 << last; set < 2 << last; set++) {
                    put(meant, set, peopleOfRound(set, last));
                    put(most, set, roundsOf(set, last));
                }
            }
            return at(most, (1 << Math.min(twos, MOST_ORDERED)) - 1);
        }

        /** The people (bits) of twos that can settle in one round; NONE if one is in two of them. */
        private int peopleOfRound(int set, int last) {
            int before = at(meant, set ^ 1 << last);
            int both = 1 << at(lessers, last) | 1 << at(others, last);
            return before == NONE || (before & both) != 0 ? NONE : before | both;
        }

        private int roundsOf(int set, int last) {
            int fewest = FAR;
            // some round has the last of the twos, and may as well be the first
            for (int round = 1 << last; round <= set; round++) {
                if ((round & ~set) == 0 && at(meant, round) != NONE) {
                    fewest = Math.min(fewest, 1 + at(most, set ^ round));
                }
            }
            return fewest;
        }
    }

    /** SHARES of a DEBTOR: the QUARTERS of his OPEN papers are his HOLDERS' votes. */
    private static final class Votes {
        private final int[] votes = new int[MOST_PEOPLE];
        private int holders;
        private int many;
        private int all;

        void gather(World world, int debtor) {
            fill(votes, 0);
            holders = 0;
            all = 0;
            for (int p = 0; p < world.papers(); p++) {
                if (world.isOpen(p) && world.debtorOf(p) == debtor) {
                    increase(votes, world.holderOf(p), world.quartersOf(p));
                    holders |= 1 << world.holderOf(p);
                    all += world.quartersOf(p);
                }
            }
            many = Integer.bitCount(holders);
        }

        int all() {
            return all;
        }

        int greatest() {
            int greatest = 0;
            for (int i = 0; i < MOST_PEOPLE; i++) {
                greatest = Math.max(greatest, at(votes, i));
            }
            return greatest;
        }

        int decidesAlone() {
            for (int i = 0; i < MOST_PEOPLE; i++) {
                if (decide(1 << i)) {
                    return i;
                }
            }
            return NONE;
        }

        private boolean decide(int set) {
            int sum = 0;
            for (int i = 0; i < MOST_PEOPLE; i++) {
                if (has(set, i)) {
                    sum += at(votes, i);
                }
            }
            return 2 * sum > all;
        }

        /** Whether one is not of a set of HOLDERS, but decides when he comes to it. */
        private boolean turns(int set, int one) {
            boolean aside = (set & ~holders) == 0 && !has(set, one);
            return aside && decide(set | 1 << one) && !decide(set);
        }

        int setsDecidedBy(int one) {
            int sets = 0;
            for (int set = 0; set < SETS; set++) {
                if (turns(set, one)) {
                    sets++;
                }
            }
            return sets;
        }

        /** Orders in which one comes first behind a set that he turns: those of the set, those of the rest. */
        int ordersDecidedBy(int one) {
            int found = 0;
            for (int set = 0; set < SETS; set++) {
                if (turns(set, one)) {
                    int before = Integer.bitCount(set);
                    found += ordersOf(before) * ordersOf(many - before - 1);
                }
            }
            return found;
        }

        int orders() {
            return ordersOf(many);
        }

        private static int ordersOf(int n) {
            int product = 1;
            for (int i = 2; i <= n; i++) {
                product *= i;
            }
            return product;
        }
    }

    /** The shortest RING of people each of whom owes the next one; of several the least. */
    private static final class Ring {
        private final int[] steps = new int[SQUARED];
        private final int[] members = new int[MOST_PEOPLE];
        private int size;

        int size() {
            return size;
        }

        int member(int i) {
            return at(members, i);
        }

        void find(Ledger ledger) {
            measure(ledger);
            int shortest = FAR;
            int first = 0;
            for (int i = 0; i < ledger.people(); i++) {
                if (stepsFrom(i, i) < shortest) {
                    shortest = stepsFrom(i, i);
                    first = i;
                }
            }
            size = shortest == FAR ? 0 : shortest;
            for (int i = 0; i < size; i++) {
                int before = at(members, i - 1);
                put(members, i, i == 0 ? first : next(ledger, before, first, size - i));
            }
        }

        /** The fewest steps from each to each; from one to himself they are the shortest ring with him. */
        private void measure(Ledger ledger) {
            for (int i = 0; i < MOST_PEOPLE; i++) {
                for (int j = 0; j < MOST_PEOPLE; j++) {
                    put(steps, MOST_PEOPLE * i + j, ledger.owed(i, j) > 0 ? 1 : FAR);
                }
            }
            for (int by = 0; by < ledger.people(); by++) {
                for (int i = 0; i < ledger.people(); i++) {
                    for (int j = 0; j < ledger.people(); j++) {
                        int round = stepsFrom(i, by) + stepsFrom(by, j);
                        put(steps, MOST_PEOPLE * i + j, Math.min(stepsFrom(i, j), round));
                    }
                }
            }
        }

        private int stepsFrom(int one, int other) {
            return at(steps, MOST_PEOPLE * one + other);
        }

        /** The least one whom one owes and from whom the ring closes in so many steps. */
        private int next(Ledger ledger, int one, int first, int left) {
            for (int i = 0; i < ledger.people(); i++) {
                if (ledger.owed(one, i) > 0 && stepsFrom(i, first) == left) {
                    return i;
                }
            }
            return first;
        }

        /** The least that one of the ring owes the next. */
        int least(Ledger ledger) {
            int least = FAR;
            for (int i = 0; i < size; i++) {
                int then = i + 1 < size ? i + 1 : 0;
                least = Math.min(least, ledger.owed(at(members, i), at(members, then)));
            }
            return least;
        }
    }

    /** The set of papers with the greatest sum of values, no two of which clash; of several the least bits. */
    private static final class Picker {
        private final int[] papers = new int[MOST_PAPERS];
        private final int[] values = new int[MOST_PAPERS];
        private final int[] marks = new int[MOST_PAPERS];
        private int offered;
        private boolean exact;
        private int best;
        private int bestBits;

        /** Exact: just so many papers are to be chosen as are asked for; else so many at most. */
        void start(boolean justSoMany) {
            offered = 0;
            exact = justSoMany;
        }

        /** A paper to choose from; papers with a mark (a bit) in common clash. */
        void offer(int paper, int value, int mark) {
            if (offered < MOST_PAPERS) {
                put(papers, offered, paper);
                put(values, offered, value);
                put(marks, offered, mark);
                offered++;
            }
        }

        void choose(int many) {
            best = -1;
            bestBits = 0;
            chooseFrom(this, offered - 1, many, 0, 0, 0);
        }

        boolean found() {
            return best >= 0;
        }

        int bits() {
            return bestBits;
        }

        int sum() {
            return best;
        }

        /** Leaves the highest paper out before it takes it, so sets come by rising bits, and the first stays. */
        private static void chooseFrom(Picker picker, int last, int left, int marked, int sum, int bits) {
            if (last < 0 || last >= MOST_PAPERS) {
                if (sum > picker.best && (left == 0 || !picker.exact)) {
                    picker.best = sum;
                    picker.bestBits = bits;
                }
                return;
            }
            if (picker.exact && left > last + 1) {
                return;
            }
            chooseFrom(picker, last - 1, left, marked, sum, bits);
            int mark = at(picker.marks, last);
            if (left > 0 && (marked & mark) == 0) {
                chooseFrom(picker, last - 1, left - 1, marked | mark,
                        sum + at(picker.values, last), bits | 1 << at(picker.papers, last));
            }
        }
    }
}
