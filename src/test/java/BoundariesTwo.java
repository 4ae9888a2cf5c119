/** Boundary cases of promises 11 to 30: part II of the document. Each test() is one of them; see Told for its words. */
public final class BoundariesTwo {
    private static final String TWO = "'p00;p00;' ";
    private static final String THREE = "'p00;p00;p00;' ";
    private static final String FOUR = "'p00;p00;p00;p00;' ";
    private static final String SEVEN = "'p00;p00;p00;p00;p00;p00;p00;' ";
    private static final String TO_DAY_90 = "'d9;d9;d9;d9;d9;d9;d9;d9;d9;d9;' ";
    /** Seven twos: 0 with each other one, and 12. */
    private static final String SEVEN_TWOS = SEVEN + "'o010109=;o020109=;o030109=;o040109=;o050109=;o060109=;o120109=;' ";

    private static void test(String name, String run) {
        Told.test(name, run);
    }

    public static void main(String[] args) {
        nobodyAtAll();
        oneAlone();
        owes();
        net();
        payments();
        settledThrough();
        cut();
        nobodyWill();
        minutes();
        orders();
        numbersOfTwos();
        busiest();
        gain();
        bestBuy();
        swings();
        boss();
        corner();
        looks();
        chain();
        comesIn();
        fits();
        deaths();
        hold();
        everybodyUnwilling();
        Told.end();
    }

    /** All seven UNWILLING towards all others; 0 to 5 owe the next one and 6 owes 0. */
    private static void everybodyUnwilling() {
        StringBuilder all = new StringBuilder(SEVEN);
        for (int i = 0; i < 49; i++) {
            if (i / 7 != i % 7) {
                all.append("unwilling(").append(i / 7).append(',').append(i % 7).append(") ");
            }
        }
        for (int i = 0; i < 7; i++) {
            all.append("owe(").append(i).append(',').append((i + 1) % 7).append(',').append(i + 1).append(",3,0) ");
        }
        String run = all.toString();
        test("all UNWILLING: bits", run + "person(0,4)=126 person(3,4)=119 person(6,4)=63");
        test("all UNWILLING: nothing is SETTLED", run + "through(0)=0");
        test("all UNWILLING: who gives is cut off by himself", run + "net(0)=6 net(1)=-1 through(1)=126");
        test("all UNWILLING: no CHAIN but to himself", run + "chain(0,6)=-9 chain(6,6)=0 comesIn(3)=0");
        test("all UNWILLING: nobody to come in by", run + "over(2,2) over(3,3) comesIn(3)=-9");
        test("all UNWILLING: nothing is PAID", run + "nobodyWill()=0 paidBy(98)=0 lots(20,1)=0 3*go() go() paper(6,5)=3 count(4)=0");
        test("all UNWILLING: no GAIN", run + "gain(0,2)=0 bestBuy(0)=-9");
        test("all UNWILLING: all STUCK", run + "stuck()=127 over(0,0)=2 stuck()=126 over(1,5)!-3 trade(0,1)=-9");
        test("all UNWILLING: one stands between", run + "stands()=0");
        test("all UNWILLING: they settle THE SQUARE all the same", run + "ring(-1)=7 round()=1 payments()=6 square(0)=22 square(1)=13");
        test("all UNWILLING: nobody kisses", run + "row(1) row(0) row(0) row(1) fits()=0 clear() 8*row(0) fits()=1");
    }

    /** What is answered where there is nothing. */
    private static void nobodyAtAll() {
        test("nobody: PAYMENTS", "payments()=0");
        test("nobody: SETTLED THROUGH", "through(0)=0");
        test("nobody: THE CUT", "through(1)=0");
        test("nobody: NOBODY WILL", "nobodyWill()=-9");
        test("nobody: THE SQUARE", "square(0)=0 square(1)=0 soonest(0)=-9 busiest()=-9");
        test("nobody: CORNER", "corner()=-9");
        test("nobody: IN IT", "inIt()=0");
        test("nobody: FITS", "fits()!-3 4*row(0) fits()!-3 count(6)=4");
        test("nobody: all who are asked for", "net(0)!-1 owes(0,1)!-1 gain(0,1)!-1 bestBuy(0)!-1 swings(0,0)!-1 boss(0)!-1 "
                + "chain(0,0)!-1 comesIn(0)!-1 hold(0,0)!-1 deaths(0,2,0)!-1");
    }

    private static void oneAlone() {
        test("one alone: NET", "'p00;' net(0)=0");
        test("one alone: PAYMENTS", "'p00;' payments()=0 through(0)=0 through(1)=0");
        test("one alone: THE SQUARE", "'p00;' square(0)=0 square(1)=0 soonest(0)=-9 busiest()=-9");
        test("one alone: BEST to buy", "'p00;' bestBuy(0)=-9");
        test("one alone: SHARES", "'p00;' swings(0,0)=0 boss(0)=-9 corner()=-9");
        test("one alone: CHAIN", "'p00;' chain(0,0)=0 comesIn(0)=-9 inIt()=0");
        test("one alone: HOLD", "'p00;' hold(0,0)=0 hold(0,1)=-9 hold(0,2)=-9 hold(0,3)=-9");
        test("one alone: FITS", "'p00;' 4*row(0) fits()!-3");
    }

    /** Promise 11. */
    private static void owes() {
        test("OWES nothing", TWO + "owes(0,1)=0 owes(1,0)=0");
        test("OWES one quarter", TWO + "owe(0,1,1,0,0) owes(0,1)=1 owes(1,0)=0");
        test("OWES by all 16", TWO + "16*owe(0,1,40,98,0) owes(0,1)=640 owes(1,0)=0");
        test("OWES by FORGED ones, by those behind their DUE", TWO + "'d2;' owe(0,1,3,1,1) owe(0,1,4,0,0) owes(0,1)=7");
        test("OWES: PAID", TWO + "owe(0,1,5,0,0) go() owes(0,1)=0");
        test("OWES: CANCELLED", TWO + "owe(0,1,5,0,0) over(0,0) owes(0,1)=0");
        test("OWES: LOST", TWO + "owe(0,1,5,0,1) go() owes(0,1)=0");
        test("OWES to its HOLDER of now", THREE + "owe(0,1,5,0,0) over(0,2) owes(0,1)=0 owes(0,2)=5");
        test("OWES: 5 and 6", SEVEN + "owe(5,6,5,0,0) owes(5,6)=5 owes(6,5)=0 owes(6,7)!-1 owes(7,6)!-1");
        test("OWES: one twice", TWO + "owes(0,0)!-1 owes(1,1)!-1 owes(2,2)!-1");
        test("OWES: no such one", TWO + "owes(0,2)!-1 owes(2,0)!-1 owes(-1,0)!-1 owes(0,-1)!-1 owes(2147483647,0)!-1 "
                + "owes(0,-2147483648)!-1");
        test("UNWILLING ones OWE too", TWO + "owe(0,1,5,0,0) unwilling(0,1) unwilling(1,0) owes(0,1)=5");
    }

    /** Promise 12. */
    private static void net() {
        test("NET 0", TWO + "net(0)=0 net(1)=0");
        test("NET 1 and -1", TWO + "owe(0,1,1,0,0) net(0)=-1 net(1)=1");
        test("NET 0 by as much either way", TWO + "owe(0,1,5,0,0) owe(1,0,5,1,0) net(0)=0 net(1)=0");
        test("NET of all 16", TWO + "16*owe(0,1,40,98,0) net(0)=-640 net(1)=640");
        test("NET: PAID, CANCELLED, LOST", TWO + "owe(0,1,5,0,0) owe(0,1,7,0,1) owe(0,1,9,9,0) go() over(2,0) net(0)=0 net(1)=0");
        test("NET of 6", SEVEN + "owe(0,6,5,0,0) net(6)=5 net(7)!-1");
        test("NET of nobody is told above all NETS", TWO + "net(2)!-1 net(-1)!-1 net(2147483647)!-1 net(-2147483648)!-1");
    }

    /** Promise 13. */
    private static void payments() {
        test("PAYMENTS: nothing owed", SEVEN + "payments()=0");
        test("PAYMENTS: all NETS 0", THREE + "owe(0,1,5,0,0) owe(1,2,5,0,0) owe(2,0,5,0,0) payments()=0");
        test("PAYMENTS: one", TWO + "owe(0,1,1,0,0) payments()=1");
        test("PAYMENTS: as large as need be", TWO + "16*owe(0,1,40,0,0) payments()=1");
        test("PAYMENTS: whether they will or not", TWO + "owe(0,1,1,0,0) unwilling(0,1) unwilling(1,0) payments()=1");
        test("PAYMENTS: six, one pays all others", SEVEN + "owe(0,1,1,0,0) owe(0,2,2,0,0) owe(0,3,3,0,0) owe(0,4,4,0,0) "
                + "owe(0,5,5,0,0) owe(0,6,6,0,0) payments()=6");
        test("PAYMENTS: six, all pay the last", SEVEN + "owe(0,6,1,0,0) owe(1,6,1,0,0) owe(2,6,1,0,0) owe(3,6,1,0,0) "
                + "owe(4,6,1,0,0) owe(5,6,1,0,0) payments()=6");
        // NETS -1 -2 3 -10 -20 30: two by two and two by two
        test("PAYMENTS: two groups of three", SEVEN + "owe(0,2,1,0,0) owe(1,2,2,0,0) owe(3,5,10,0,0) owe(4,5,20,0,0) payments()=4");
        // NETS -5 5 -7 7 -9 9
        test("PAYMENTS: three groups of two", SEVEN + "owe(0,2,5,0,0) owe(4,1,7,0,0) owe(3,5,9,0,0) payments()=3");
        // NETS -3 -3 2 2 2: no group but all
        test("PAYMENTS: no group but all", SEVEN + "owe(0,2,2,0,0) owe(0,3,1,0,0) owe(1,3,1,0,0) owe(1,4,2,0,0) payments()=4");
        test("PAYMENTS: by OPEN ones alone", TWO + "owe(0,1,1,0,0) go() payments()=0");
    }

    /** Promise 14. */
    private static void settledThrough() {
        test("THROUGH: what", TWO + "through(-1)!-2 through(2)!-2 through(2147483647)!-2 through(-2147483648)!-2");
        test("THROUGH: nothing owed", TWO + "through(0)=0 through(1)=0");
        test("THROUGH: all", TWO + "16*owe(0,1,40,0,0) through(0)=640 through(1)=0");
        test("THROUGH: 0 takes", SEVEN + "owe(6,0,5,0,0) through(0)=5 through(1)=0 owe(6,5,5,0,0) 'u65;u64;u63;u62;u61;' "
                + "through(0)=10 unwilling(6,0) through(0)=0 through(1)=64");
        test("THROUGH: giver UNWILLING", TWO + "owe(0,1,5,0,0) unwilling(0,1) through(0)=0 through(1)=1");
        test("THROUGH: taker UNWILLING", TWO + "owe(0,1,5,0,0) unwilling(1,0) through(0)=0 through(1)=1");
        test("THROUGH one between", THREE + "owe(0,1,5,0,0) unwilling(0,1) through(0)=5 through(1)=0");
        test("THROUGH one between who is UNWILLING", THREE + "owe(0,1,5,0,0) unwilling(0,1) unwilling(2,1) through(0)=0");
        test("THROUGH one between towards whom the giver is UNWILLING", THREE
                + "owe(0,1,5,0,0) unwilling(0,1) unwilling(0,2) through(0)=0");
        test("THROUGH five between, without bound", SEVEN + "16*owe(0,6,40,0,0) 'u02;u03;u04;u05;u06;u13;u14;u15;u16;' "
                + "'u24;u25;u26;u35;u36;u46;' through(0)=640 through(1)=0 unwilling(4,3) through(0)=0 through(1)=15");
        // 0 gives 8 in all, 1 takes 5 of it, 2 the 3 behind his being UNWILLING
        test("THROUGH: gives at most his NET", THREE + "owe(0,1,5,0,0) owe(0,2,3,0,0) 'u20;u21;' through(0)=5 through(1)=3");
        test("THROUGH: takes at most his NET", THREE + "owe(0,1,5,0,0) owe(2,1,3,0,0) 'u20;u21;' through(0)=5 through(1)=4");
        test("THROUGH: NETS of 0 give and take nothing", THREE
                + "owe(0,1,5,0,0) owe(1,2,5,0,0) 'u01;u12;' through(0)=5 unwilling(0,2) through(0)=0");
    }

    private static void cut() {
        test("CUT: as much given as taken", FOUR + "'o010509=;o230509=;u02;u03;u12;u13;' through(0)=10 through(1)=0");
        test("CUT: one more given than taken", FOUR + "'o010509=;o230509=;o030109=;u02;u03;u12;u13;' through(0)=10 through(1)=3");
        test("CUT: one less given than taken", FOUR + "'o010509=;o230509=;o210109=;u02;u03;u12;u13;' through(0)=10 through(1)=12");
        test("CUT: he by himself", TWO + "owe(1,0,5,0,0) unwilling(0,1) through(1)=2");
        test("CUT: with those who owe nothing", FOUR + "'o010509=;u12;u13;u10;' through(1)=13");
        test("CUT: with one who takes all he can", FOUR + "'o010509=;o020209=;u10;u13;u12;' through(0)=2 through(1)=13");
    }

    /** Promise 15. */
    private static void nobodyWill() {
        test("NOBODY WILL: no paper", TWO + "nobodyWill()=-9");
        test("NOBODY WILL: all would be PAID", TWO + "16*owe(0,1,5,5,0) nobodyWill()=-9");
        test("NOBODY WILL: DUE on DAY", TWO + "'d5;' owe(0,1,5,5,1) nobodyWill()=0");
        test("NOBODY WILL: DUE the DAY before", TWO + "'d5;' owe(0,1,5,4,1) nobodyWill()=-9");
        test("NOBODY WILL: DUE on 98", TWO + "owe(0,1,5,98,1) nobodyWill()=0");
        test("NOBODY WILL: the last of 16", TWO + "15*owe(0,1,5,5,0) owe(0,1,5,5,1) nobodyWill()=15");
        test("NOBODY WILL: the least", TWO + "owe(0,1,5,5,0) owe(0,1,5,9,1) owe(0,1,5,5,1) nobodyWill()=1");
        test("NOBODY WILL: LOST already", TWO + "owe(0,1,5,0,1) go() nobodyWill()=-9");
        test("NOBODY WILL: CANCELLED", TWO + "owe(0,1,5,5,1) over(0,0) nobodyWill()=-9");
        test("NOBODY WILL: DEBTOR UNWILLING", TWO + "owe(0,1,5,5,0) unwilling(0,1) nobodyWill()=0");
        test("NOBODY WILL: HOLDER UNWILLING", TWO + "owe(0,1,5,5,0) unwilling(1,0) nobodyWill()=0");
        test("NOBODY WILL: UNWILLING towards others", THREE + "'o010505=;u02;u12;u20;u21;' nobodyWill()=-9");
        test("NOBODY WILL on DAY 99", TWO + TO_DAY_90 + "'d9;' owe(0,1,5,98,1) nobodyWill()=-9");
    }

    /** Promise 16: 2 minutes at least. */
    private static void minutes() {
        int[] over = {0, 1, 2, 3, 39};
        int[] minutes = {2, 2, 2, 3, 39};
        for (int i = 0; i < over.length; i++) {
            String due = " square(0)=" + minutes[i] + " square(1)=" + minutes[i] + " soonest(0)=1 busiest()=0";
            test("SQUARE: over " + over[i], TWO + "owe(1,0,1,9,0) owe(0,1," + (over[i] + 1) + ",9,0)" + due);
            test("SQUARE: over " + over[i] + " the other way",
                    TWO + "owe(0,1,1,9,0) owe(1,0," + (over[i] + 1) + ",9,0)" + due);
        }
        test("SQUARE: one way alone", TWO + "owe(1,0,1,9,0) square(0)=2 square(1)=2 soonest(0)=1");
        test("SQUARE: 640 minutes", TWO + "16*owe(0,1,40,9,0) square(0)=640 square(1)=640");
        test("SQUARE: what", TWO + "square(-1)!-2 square(2)!-2 square(2147483647)!-2 square(-2147483648)!-2");
        test("SQUARE: not OPEN", TWO + "owe(0,1,5,0,0) square(0)=5 go() square(0)=0 square(1)=0 soonest(0)=-9");
        test("SQUARE: UNWILLING ones too", TWO + "owe(0,1,5,0,0) unwilling(0,1) unwilling(1,0) square(0)=5");
    }

    /** Promises 16 and 17: when all is done, and by which ORDER. */
    private static void orders() {
        test("SQUARE: both free at once", FOUR + "owe(2,3,7,9,0) owe(0,1,5,9,0) square(0)=7 square(1)=7 soonest(0)=1 soonest(1)=23");
        test("SQUARE: one behind the other", THREE + "owe(1,2,7,9,0) owe(0,1,5,9,0) square(0)=12 square(1)=12 soonest(0)=1 "
                + "soonest(1)=12");
        // rising 02 0-9, 03 9-18, 13 18-27; 02 and 13 at once, then 03
        test("SQUARE: another ORDER is sooner", FOUR + "'o020909=;o030909=;o130909=;' square(0)=27 square(1)=18 soonest(0)=2 "
                + "soonest(1)=13 soonest(2)=3 soonest(3)=-9");
        // 03 with 12, 02 with 13: 02 13 comes ahead of 03 12
        test("SQUARE: of several ORDERS the first by twos rising", FOUR + "'o020909=;o030909=;o130909=;o120909=;' "
                + "square(0)=27 square(1)=18 soonest(0)=2 soonest(1)=13 soonest(2)=3 soonest(3)=12 soonest(4)=-9");
        test("SQUARE: all ORDERS alike", THREE + "'o210509=;o200509=;o100509=;' square(0)=15 square(1)=15 soonest(0)=1 soonest(1)=2 "
                + "soonest(2)=12 soonest(3)=-9");
        test("SQUARE: the lesser number first", SEVEN + "owe(6,5,5,9,0) soonest(0)=56");
        test("SQUARE: twos that have settled are not asked", THREE + "'o010509=;o120909=;o200109=;' square(1)=16 soonest(2)=12 over(2,2) "
                + "square(1)=14 soonest(1)=12 soonest(2)=-9 over(0,0) square(1)=9 soonest(0)=12 soonest(1)=-9");
        test("SQUARE: one that has settled is not waited for", FOUR + "'o030209=;o320209=;o310609=;o010409=;' square(1)=12 over(1,3)=2 "
                + "square(1)=12 soonest(0)=1 soonest(1)=3 soonest(2)=13 soonest(3)=-9");
        test("SQUARE: no i below 0", TWO + "soonest(-1)!-4 soonest(-2147483648)!-4 soonest(0)=-9");
        test("SQUARE: i beyond all", TWO + "owe(0,1,5,9,0) soonest(1)=-9 soonest(2147483647)=-9");
    }

    /** Promises 16, 17 and 45: seven twos at most where ORDERS are looked for. */
    private static void numbersOfTwos() {
        test("7 twos: SQUARE", SEVEN_TWOS + "square(0)=12 square(1)=12");
        test("7 twos: the last, and the one behind it", SEVEN_TWOS + "soonest(0)=1 soonest(6)=12 soonest(7)=-9");
        test("7 twos: ROUNDS", SEVEN_TWOS + "rounds()=6");
        String eight = SEVEN_TWOS + "owe(3,4,1,9,0) ";
        test("8 twos: SQUARE", eight + "square(0)=12 square(1)!-3");
        test("8 twos: what is told ahead of -3", eight + "square(2)!-2 square(-1)!-2");
        test("8 twos: the i-th", eight + "soonest(0)!-3 soonest(7)!-3 soonest(8)!-3 soonest(2147483647)!-3");
        test("8 twos: -4 is told ahead of -3", eight + "soonest(-1)!-4");
        test("8 twos: ROUNDS", eight + "rounds()!-3");
        test("8 twos, one settled: 7", eight + "over(0,0) square(1)=10 soonest(6)=34 rounds()=5");
        test("8 papers, 7 twos", SEVEN_TWOS + "owe(1,0,1,9,0) square(1)=12 soonest(7)=-9 rounds()=6");
        test("16 twos", SEVEN + "'o010109=;o020109=;o030109=;o040109=;o050109=;o060109=;o120109=;o130109=;' "
                + "'o140109=;o150109=;o160109=;o230109=;o240109=;o250109=;o260109=;o340109=;' "
                + "square(0)=16 square(1)!-3 busiest()=0 atOnce()=3");
    }

    /** Promise 18. */
    private static void busiest() {
        test("BUSIEST: nothing owed", TWO + "busiest()=-9");
        test("BUSIEST: not OPEN", TWO + "owe(0,1,5,0,0) go() busiest()=-9");
        test("BUSIEST: of two alike the least", FOUR + "owe(3,2,5,0,0) busiest()=2");
        test("BUSIEST: the last of seven", SEVEN + "owe(5,6,5,0,0) owe(6,4,1,0,0) busiest()=6");
        test("BUSIEST: 2 minutes at least count", FOUR + "owe(0,1,3,0,0) owe(2,3,1,0,0) owe(1,2,1,0,0) busiest()=1 "
                + "owe(0,3,1,0,0) busiest()=0");
        test("BUSIEST: by minutes, not by twos", FOUR + "owe(0,1,9,0,0) owe(2,3,4,0,0) owe(1,2,4,0,0) owe(0,3,3,0,0) busiest()=1 "
                + "owe(0,3,1,0,0) busiest()=0");
    }

    /** Promise 19. */
    private static void gain() {
        test("GAIN 0: no debts", THREE + "gain(0,1)=0");
        test("GAIN 0: worth its QUARTERS", "'p00;p10;p00;' owe(1,2,5,98,0) gain(0,1)=0");
        test("GAIN of all", TWO + "'p00;' owe(1,2,40,50,0) gain(0,1)=40 gain(0,2)=0");
        test("GAIN of 15 of 40", THREE + "15*owe(1,2,40,98,0) owe(1,0,40,98,0) gain(0,1)=600");
        test("GAIN: his own do not count", THREE + "owe(1,0,40,98,0) gain(0,1)=0 gain(2,1)=40");
        test("GAIN: FORGED ones give nothing", THREE + "owe(1,2,10,0,1) gain(0,1)=-10 owe(1,2,40,98,1) gain(0,1)=-10");
        test("GAIN: below 0 is told as it is", "'p00;p10;p00;' 16*owe(1,2,40,98,1) gain(0,1)=-640");
        test("GAIN: -1 is no refusal", "'p00;p10;p00;' owe(1,2,1,98,1) gain(0,1)=-1 count(11)=0");
        test("GAIN: UNWILLING towards the DEBTOR", THREE + "owe(1,2,40,98,0) unwilling(0,1) gain(0,1)=0");
        test("GAIN: UNWILLING, where it would be below 0", THREE + "owe(1,2,10,0,1) unwilling(0,1) gain(0,1)=0");
        test("GAIN: UNWILLING towards the HOLDER", THREE + "owe(1,2,40,98,0) unwilling(0,2) unwilling(2,0) gain(0,1)=40");
        test("GAIN: the DEBTOR UNWILLING", THREE + "owe(1,2,40,98,0) unwilling(1,0) gain(0,1)=40");
        test("GAIN: not OPEN", THREE + "owe(1,2,40,98,0) over(0,1) owe(1,2,9,0,1) go() gain(0,1)=0");
        test("GAIN: one twice", TWO + "gain(0,0)!-1 gain(1,1)!-1 gain(2,2)!-1");
        test("GAIN: no such one", TWO + "gain(0,2)!-1 gain(2,0)!-1 gain(-1,0)!-1 gain(0,-1)!-1");
        test("GAIN: 6 by 5", SEVEN + "owe(5,4,40,98,0) gain(6,5)=40 gain(6,7)!-1 gain(7,6)!-1");
    }

    /** Promise 20. */
    private static void bestBuy() {
        test("BEST: no debts", THREE + "bestBuy(0)=-9");
        test("BEST: GAIN 0", "'p00;p10;p00;' owe(1,2,5,98,0) bestBuy(0)=-9");
        test("BEST: GAIN 1", THREE + "owe(1,2,40,2,0) gain(0,1)=1 bestBuy(0)=1");
        test("BEST: GAIN -1", THREE + "owe(1,2,1,0,1) gain(0,1)=-1 bestBuy(0)=-9");
        test("BEST: of two alike the least", FOUR + "owe(2,3,9,98,0) owe(1,3,9,98,0) bestBuy(0)=1");
        test("BEST: one more is better", FOUR + "owe(2,3,10,98,0) owe(1,3,9,98,0) bestBuy(0)=2");
        test("BEST: not himself", FOUR + "owe(0,3,40,98,0) owe(1,3,9,98,0) bestBuy(0)=1 bestBuy(2)=0");
        test("BEST: not towards whom he is UNWILLING", FOUR + "owe(2,3,10,98,0) owe(1,3,9,98,0) unwilling(0,2) bestBuy(0)=1");
        test("BEST: the last of seven", SEVEN + "owe(6,3,10,98,0) bestBuy(0)=6 bestBuy(6)=-9 bestBuy(5)=6");
        test("BEST: 0 is a DEBTOR too", SEVEN + "owe(0,3,10,98,0) bestBuy(6)=0");
        test("BEST: no such one", TWO + "bestBuy(2)!-1 bestBuy(-1)!-1 bestBuy(2147483647)!-1 bestBuy(-2147483648)!-1");
    }

    /** Promise 21. */
    private static void swings() {
        test("SWINGS: no debts", TWO + "swings(0,1)=0 swings(0,0)=0");
        test("SWINGS: he alone", THREE + "owe(0,1,1,9,0) swings(0,1)=1 swings(0,2)=0 swings(0,0)=0");
        test("SWINGS: just half is not more", THREE + "owe(0,1,5,9,0) owe(0,2,5,9,0) swings(0,1)=1 swings(0,2)=1");
        test("SWINGS: one more than half", THREE + "owe(0,1,6,9,0) owe(0,2,5,9,0) swings(0,1)=2 swings(0,2)=0");
        test("SWINGS: half against several", FOUR + "owe(0,1,4,9,0) owe(0,2,2,9,0) owe(0,3,2,9,0) swings(0,1)=3 swings(0,2)=1");
        test("SWINGS: six alike", SEVEN + "'o010109=;o020109=;o030109=;o040109=;o050109=;o060109=;' swings(0,1)=10 swings(0,6)=10 "
                + "swings(0,0)=0");
        test("SWINGS: six, one has more than half", SEVEN + "'o010609=;o020109=;o030109=;o040109=;o050109=;o060109=;' "
                + "swings(0,1)=32 swings(0,6)=0");
        test("SWINGS: six, one has just half", SEVEN + "'o010509=;o020109=;o030109=;o040109=;o050109=;o060109=;' "
                + "swings(0,1)=31 swings(0,6)=1");
        test("SWINGS: OPEN ones alone", THREE + "owe(0,1,1,0,0) owe(0,2,9,9,0) go() swings(0,1)=0 swings(0,2)=1");
        test("SWINGS: who held another's papers does not count", FOUR + "owe(0,1,5,9,0) owe(0,2,5,9,0) owe(0,3,5,9,0) owe(1,0,5,9,0) "
                + "swings(0,1)=2 swings(1,0)=1 swings(2,1)=0");
        test("SWINGS: no such one", TWO + "swings(2,0)!-1 swings(0,2)!-1 swings(-1,0)!-1 swings(0,-1)!-1 swings(2,2)!-1");
        test("SWINGS: one twice is none of its refusals", TWO + "swings(1,1)=0 count(11)=0");
    }

    /** Promise 22. */
    private static void boss() {
        test("BOSS: no debts", TWO + "boss(0)=-9");
        test("BOSS: he alone", TWO + "owe(0,1,1,9,0) boss(0)=1 boss(1)=-9");
        test("BOSS: just half", THREE + "owe(0,1,5,9,0) owe(0,2,5,9,0) boss(0)=-9");
        test("BOSS: one more than half", THREE + "owe(0,1,5,9,0) owe(0,2,6,9,0) boss(0)=2");
        test("BOSS: half of an odd number, cut", FOUR + "owe(0,1,2,9,0) owe(0,2,2,9,0) owe(0,3,1,9,0) boss(0)=-9");
        test("BOSS: 321 of 640, 320 of 640", THREE + "8*owe(0,1,40,9,0) 7*owe(0,2,40,9,0) owe(0,2,40,9,0) boss(0)=-9 over(8,1) boss(0)=1");
        test("BOSS: 0 may be it", SEVEN + "owe(6,0,5,9,0) boss(6)=0");
        test("BOSS: 6 may be it", SEVEN + "owe(0,6,5,9,0) boss(0)=6");
        test("BOSS: OPEN ones alone", THREE + "owe(0,1,5,0,0) owe(0,2,5,9,0) boss(0)=-9 go() boss(0)=2");
        test("BOSS: no such one", TWO + "boss(2)!-1 boss(-1)!-1 boss(2147483647)!-1 boss(-2147483648)!-1");
    }

    /** Promise 23. */
    private static void corner() {
        test("CORNER: no papers", SEVEN + "corner()=-9");
        test("CORNER: none OPEN", TWO + "owe(0,1,5,0,0) go() corner()=-9");
        test("CORNER: one", SEVEN + "owe(6,0,1,9,0) corner()=6");
        test("CORNER: of several wholes the least", FOUR + "owe(2,1,40,9,0) owe(1,3,1,9,0) corner()=1");
        test("CORNER: a half is like two quarters", SEVEN + "owe(1,2,20,9,0) owe(1,3,20,9,0) owe(0,2,1,9,0) owe(0,3,1,9,0) corner()=0");
        test("CORNER: 2 of 3 is more than 7 of 11", FOUR + "owe(0,2,7,9,0) owe(0,3,4,9,0) owe(1,2,2,9,0) owe(1,3,1,9,0) corner()=1");
        test("CORNER: 2 of 3 is less than 7 of 10", FOUR + "owe(0,2,7,9,0) owe(0,3,3,9,0) owe(1,2,2,9,0) owe(1,3,1,9,0) corner()=0");
        test("CORNER: 2 of 3 is as much as 8 of 12", FOUR + "owe(0,2,8,9,0) owe(0,3,4,9,0) owe(1,2,2,9,0) owe(1,3,1,9,0) corner()=0");
        test("CORNER: a part, not QUARTERS", FOUR + "6*owe(0,2,40,9,0) owe(0,3,40,9,0) owe(1,2,1,9,0) corner()=1");
    }

    /** Promise 24. */
    private static void looks() {
        for (int n = 0; n <= 99; n++) {
            int looks = n == 0 ? 0 : n == 1 ? 1 : n <= 3 ? 2 : n <= 7 ? 3 : n <= 15 ? 4 : n <= 31 ? 5 : n <= 63 ? 6 : 7;
            test("LOOKS among " + n, "looks(" + n + ")=" + looks);
        }
        test("LOOKS: n -1", "looks(-1)!-4 looks(-2147483648)!-4");
        test("LOOKS: n 100", "looks(100)!-6 looks(2147483647)!-6");
    }

    /** Promise 25. */
    private static void chain() {
        test("CHAIN: to himself", TWO + "chain(0,0)=0 chain(1,1)=0");
        test("CHAIN: to himself, UNWILLING towards all", TWO + "unwilling(0,1) unwilling(1,0) chain(0,0)=0");
        test("CHAIN: one step", TWO + "chain(0,1)=1 chain(1,0)=1");
        test("CHAIN: none, UNWILLING one way", TWO + "unwilling(0,1) chain(0,1)=-9 chain(1,0)=-9");
        test("CHAIN: two steps", THREE + "unwilling(0,1) chain(0,1)=2 chain(1,0)=2");
        test("CHAIN: six steps", SEVEN + "'u02;u03;u04;u05;u06;u13;u14;u15;u16;u24;u25;u26;u35;u36;u46;' chain(0,6)=6 "
                + "chain(6,0)=6 chain(0,5)=5 chain(1,6)=5 unwilling(6,5) chain(0,6)=-9 chain(0,5)=5");
        test("CHAIN: no such one", TWO + "chain(2,0)!-1 chain(0,2)!-1 chain(-1,0)!-1 chain(0,-1)!-1 chain(2,2)!-1 chain(-1,-1)!-1");
        test("CHAIN: one twice is none of its refusals", TWO + "chain(1,1)=0 count(11)=0");
    }

    /** Promises 26 and 27. */
    private static void comesIn() {
        test("IN IT: nobody", SEVEN + "inIt()=0");
        test("IN IT: two", SEVEN + "owe(6,0,1,9,0) inIt()=65");
        test("IN IT: all", SEVEN + "owe(0,1,1,9,0) owe(2,3,1,9,0) owe(4,5,1,9,0) owe(6,5,1,9,0) inIt()=127");
        test("IN IT: PAID, CANCELLED, LOST", THREE + "owe(0,1,1,0,0) owe(0,1,1,0,1) owe(0,1,1,9,0) over(2,0) inIt()=3 go() inIt()=0");
        test("IN IT: its HOLDER of now", THREE + "owe(0,1,1,9,0) over(0,2) inIt()=5");
        test("COMES IN: is IN IT", THREE + "owe(0,1,1,9,0) comesIn(0)=0 comesIn(1)=0");
        test("COMES IN: one step", THREE + "owe(0,1,1,9,0) comesIn(2)=1");
        test("COMES IN: nobody is IN IT", THREE + "comesIn(0)=-9 owe(0,1,1,0,0) comesIn(2)=1 go() comesIn(0)=-9 comesIn(2)=-9");
        test("COMES IN: not to come to", THREE + "owe(0,1,1,9,0) unwilling(2,0) comesIn(2)=1 unwilling(1,2) comesIn(2)=-9");
        test("COMES IN: is IN IT, UNWILLING", TWO + "owe(0,1,1,9,0) unwilling(0,1) unwilling(1,0) comesIn(0)=0");
        test("COMES IN: five steps", SEVEN + "owe(0,1,1,9,0) 'u02;u03;u04;u05;u06;u13;u14;u15;u16;u24;u25;u26;u35;u36;u46;' "
                + "comesIn(6)=5 comesIn(2)=1");
        test("COMES IN: no such one", TWO + "comesIn(2)!-1 comesIn(-1)!-1 comesIn(2147483647)!-1 comesIn(-2147483648)!-1");
    }

    /** Promise 28. */
    private static void fits() {
        for (int n = 0; n <= 12; n++) {
            boolean may = n == 4 || n == 6 || n == 8;
            test("FITS: a ROW of " + n, SEVEN + (n == 0 ? "" : n + "*row(0) ") + (may ? "fits()=1" : "fits()!-3") + " count(6)=" + n);
        }
        test("FITS: 2 PEOPLE of 2", TWO + "4*row(0) fits()=1");
        test("FITS: 2 PEOPLE of 1", "'p00;' 4*row(0) fits()!-3 'p00;' fits()=1");
        test("FITS: 3 PEOPLE of 3", THREE + "6*row(0) fits()=1");
        test("FITS: 3 PEOPLE of 2", TWO + "6*row(0) fits()!-3");
        test("FITS: 4 PEOPLE of 4", FOUR + "8*row(0) fits()=1");
        test("FITS: 4 PEOPLE of 3", THREE + "8*row(0) fits()!-3");
        test("FITS: 2 PEOPLE of 7", SEVEN + "4*row(1) fits()=1");
        test("FITS: all 4 kissed all", FOUR + "8*row(3) fits()=1");
        test("FITS: one more than others there are", FOUR + "8*row(4) fits()=0");
        test("FITS: all 3 kissed all", THREE + "6*row(2) fits()=1");
        test("FITS: all 3 kissed one", THREE + "6*row(1) fits()=2");
        test("FITS: 99", TWO + "4*row(99) fits()=0");
        test("FITS: 64 and 32, that wrap in few bits", FOUR + "8*row(64) fits()=0 clear() 8*row(32) fits()=0");
        test("FITS: 64 too many for one, 1 too few for the other", TWO + "row(1) row(0) row(64) row(0) fits()=0");
        test("FITS: 99 in all places but one", THREE + "row(2) row(99) row(99) row(99) row(99) row(99) fits()=0");
        test("FITS: not himself", TWO + "row(1) row(0) row(1) row(0) fits()=0");
        test("FITS: the other one", TWO + "row(1) row(0) row(0) row(1) fits()=1");
        test("FITS: one kiss more than was had", THREE + "row(1) row(1) row(1) row(1) row(1) row(0) fits()=0");
        test("FITS: one kiss less than was had", THREE + "row(1) row(1) row(0) row(1) row(1) row(1) fits()=0");
        test("FITS: UNWILLING does not kiss", TWO + "row(1) row(0) row(0) row(1) unwilling(0,1) fits()=0");
        test("FITS: UNWILLING may be kissed", TWO + "row(0) row(1) row(1) row(0) unwilling(0,1) fits()=1");
        test("FITS: UNWILLING towards one who is not told of", THREE + "4*row(1) unwilling(0,2) unwilling(2,0) fits()=1");
        test("FITS: what was cleared is not asked", FOUR + "8*row(1) fits()=9 clear() row(1) row(0) row(0) row(1) fits()=1 clear() "
                + "6*row(1) fits()=2");
        test("FITS: the ROW stays", TWO + "4*row(1) fits()=1 fits()=1 count(6)=4 row(1)=5");
    }

    /** Promise 29. */
    private static void deaths() {
        String two = "'p00;p00;d5;' ";
        test("DEATHS: DUE on DAY, surely", two + "owe(0,1,5,5,0) deaths(0,2,0)=1 deaths(0,2,1)=1 deaths(0,20,0)=1 deaths(0,20,1)=1");
        test("DEATHS: one DAY", two + "owe(0,1,5,6,0) deaths(0,2,0)=1 deaths(0,2,1)=2 deaths(0,20,0)=19 deaths(0,20,1)=20");
        test("DEATHS: 12 DAYS, t 2", two + "owe(0,1,5,17,0) deaths(0,2,0)=1 deaths(0,2,1)=4096");
        test("DEATHS: 12 DAYS, t 3", two + "owe(0,1,5,17,0) deaths(0,3,0)=4096 deaths(0,3,1)=531441");
        KissesOwed x = new KissesOwed();
        for (char letter : "p00;p00;o010512=;".toCharArray()) {
            x.feed(letter);
        }
        x.street();
        Told.due("DEATHS: 12 DAYS, t 20, above", x.deaths(0, 20, 0), 2213314919066161L);
        Told.due("DEATHS: 12 DAYS, t 20, below", x.deaths(0, 20, 1), 4096000000000000L);
        test("DEATHS: 13 DAYS", two + "owe(0,1,5,18,0) deaths(0,2,0)!-3 deaths(0,2,1)!-3 go() deaths(0,2,1)=4096");
        test("DEATHS: DUE ahead of DAY", two + "owe(0,1,5,4,0) deaths(0,2,0)!-3 owe(0,1,5,0,0) deaths(1,2,0)!-3");
        test("DEATHS: PAID", two + "owe(0,1,5,5,0) go() deaths(0,2,0)!-3");
        test("DEATHS: LOST", two + "owe(0,1,5,5,1) deaths(0,2,0)=1 go() deaths(0,2,0)!-3");
        test("DEATHS: CANCELLED", two + "owe(0,1,5,9,0) deaths(0,2,1)=16 over(0,0) deaths(0,2,0)!-3");
        String paper = two + "owe(0,1,5,6,0) ";
        test("DEATHS: t 1", paper + "deaths(0,1,0)!-4 deaths(0,0,0)!-4 deaths(0,-2147483648,0)!-4");
        test("DEATHS: t 2", paper + "deaths(0,2,1)=2");
        test("DEATHS: t 20", paper + "deaths(0,20,1)=20");
        test("DEATHS: t 21", paper + "deaths(0,21,0)!-6 deaths(0,2147483647,0)!-6");
        test("DEATHS: part", paper + "deaths(0,2,-1)!-2 deaths(0,2,2)!-2 deaths(0,2,2147483647)!-2 deaths(0,2,-2147483648)!-2");
        test("DEATHS: no such paper", paper + "deaths(1,2,0)!-1 deaths(-1,2,0)!-1 deaths(2147483647,2,0)!-1");
        test("DEATHS: paper 15", two + "16*owe(0,1,5,6,0) deaths(15,2,1)=2 deaths(16,2,1)!-1");
        String wrong = two + "owe(0,1,5,4,0) ";
        test("DEATHS: -1 is told ahead of all", wrong + "deaths(1,1,2)!-1 deaths(1,21,2)!-1 deaths(1,2,2)!-1");
        test("DEATHS: -4 is told ahead of -2 and -3", wrong + "deaths(0,1,2)!-4 deaths(0,1,0)!-4");
        test("DEATHS: -6 is told ahead of -2 and -3", wrong + "deaths(0,21,2)!-6 deaths(0,21,0)!-6");
        test("DEATHS: -2 is told ahead of -3", wrong + "deaths(0,2,2)!-2 deaths(0,2,-1)!-2");
    }

    /** Promise 30. */
    private static void hold() {
        String five = "'p10;p10;p10;p10;p00;' ";
        test("HOLD 0: none", five + "hold(4,0)=0 owe(0,4,5,9,0) hold(4,0)=0");
        test("HOLD 1 of none", five + "hold(4,1)=-9 owe(4,0,5,9,0) hold(4,1)=-9");
        test("HOLD 1 of one", five + "owe(0,4,5,9,0) hold(4,1)=1 hold(4,2)=-9");
        test("HOLD 2 of one DEBTOR's", five + "owe(0,4,5,9,0) owe(0,4,5,9,0) hold(4,1)=1 hold(4,2)=-9");
        test("HOLD 2 of two DEBTORS'", five + "owe(0,4,5,9,0) owe(0,4,6,9,0) owe(1,4,1,9,0) hold(4,2)=6 hold(4,3)=-9");
        test("HOLD 3 of three DEBTORS'", five + "owe(0,4,5,9,0) owe(1,4,6,9,0) owe(2,4,1,9,0) hold(4,3)=7 hold(4,2)=3");
        test("HOLD 3 of four DEBTORS'", five + "owe(0,4,1,9,0) owe(1,4,6,9,0) owe(2,4,5,9,0) owe(3,4,2,9,0) hold(4,3)=14");
        test("HOLD: of several the least", five + "owe(0,4,5,9,0) owe(1,4,5,9,0) owe(2,4,5,9,0) hold(4,1)=1 hold(4,2)=3 hold(4,3)=7");
        test("HOLD: of several of one DEBTOR the least", five + "owe(0,4,4,9,0) owe(0,4,5,9,0) owe(0,4,5,9,0) hold(4,1)=2");
        test("HOLD: those worth 0 are held too", "'p00;p00;p00;' owe(0,2,5,98,0) owe(1,2,5,98,0) hold(2,1)=1 hold(2,2)=3");
        test("HOLD: OPEN ones alone", five + "owe(0,4,5,0,0) owe(1,4,5,0,1) owe(2,4,5,9,0) over(2,2) go() hold(4,1)=-9 hold(4,0)=0 "
                + "hold(2,1)=-9");
        test("HOLD: paper 15", five + "15*owe(0,1,5,9,0) owe(0,4,5,9,0) hold(4,1)=32768");
        test("HOLD: 16 of one's", five + "15*owe(0,4,5,9,0) owe(1,4,5,9,0) hold(4,2)=32769 hold(4,3)=-9");
        test("HOLD: for one, then for another", five + "owe(0,4,5,9,0) owe(1,4,5,9,0) owe(2,3,5,9,0) hold(4,2)=3 hold(3,2)=-9 hold(3,1)=4 "
                + "hold(4,1)=1");
        test("HOLD: k -1", five + "hold(4,-1)!-4 hold(4,-2147483648)!-4");
        test("HOLD: k 4", five + "hold(4,4)!-6 hold(4,2147483647)!-6");
        test("HOLD: no such one", five + "hold(5,1)!-1 hold(-1,1)!-1");
        test("HOLD: -1 is told ahead of -4 and -6", five + "hold(5,-1)!-1 hold(5,4)!-1");
    }
}
