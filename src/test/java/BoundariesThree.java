/** Boundary cases of promises 31 to 53: parts III and IV, the ROW, the lots, the image. See Told for the words. */
public final class BoundariesThree {
    private static final String TWO = "'p00;p00;' ";
    private static final String THREE = "'p00;p00;p00;' ";
    private static final String FOUR = "'p00;p00;p00;p00;' ";
    private static final String SEVEN = "'p00;p00;p00;p00;p00;p00;p00;' ";
    private static final String TO_DAY_90 = "'d9;d9;d9;d9;d9;d9;d9;d9;d9;d9;' ";

    private static void test(String name, String run) {
        Told.test(name, run);
    }

    public static void main(String[] args) {
        nobodyAtAll();
        oneAlone();
        ring();
        roundIt();
        stands();
        rich();
        theLast();
        paidBy();
        trade();
        heirs();
        stuck();
        cancels();
        bestOver();
        relieved();
        power();
        atOnce();
        rounds();
        heaviest();
        row();
        judge();
        lots();
        wrappingSeeds();
        image();
        whatTheImageHas();
        counts();
        refusals();
        Told.end();
    }

    /** What is answered where there is nothing. */
    private static void nobodyAtAll() {
        test("nobody: RING", "ring(-1)=-9 ring(0)=-9 round()=-9");
        test("nobody: UNWILLING", "stands()=-9");
        test("nobody: THE LAST", "last()=-9");
        test("nobody: PAID BY", "paidBy(0)=0 paidBy(98)=0");
        test("nobody: STUCK and CANCELS", "stuck()=0 cancels()=0");
        test("nobody: BEST OVER", "bestOver()=-9");
        test("nobody: AT ONCE and ROUNDS", "atOnce()=0 rounds()=0");
        test("nobody: HEAVIEST", "heaviest(0)=0 heaviest(1)=0");
        test("nobody: LOTS", "lots(1,1)=0 lots(20,-1)=0");
        test("nobody: JUDGED", "judge()=-9 row(0) judge()=0");
        test("nobody: THE IMAGE", "image()=0 restore()=0 count(0)=0");
        test("nobody: all who are asked for", "rich(0,0)!-1 trade(0,1)!-1 heirs(0)!-1 relieved(0,0)!-1 power(0,0,0)!-1");
    }

    private static void oneAlone() {
        test("one alone: RING", "'p00;' ring(-1)=-9 round()=-9");
        test("one alone: UNWILLING", "'p00;' stands()=-9");
        test("one alone: WHEN RICH", "'p00;' rich(0,0)=0 rich(0,1)=-9");
        test("one alone: TRADE", "'p00;' trade(0,0)!-1 trade(0,1)!-1");
        test("one alone: HEIRS", "'p00;' heirs(0)=0");
        test("one alone: RELIEVED", "'p00;' relieved(0,0)=0 relieved(0,1)=0");
        test("one alone: POWER", "'p00;' power(0,0,0)=0 power(0,0,1)=1");
        test("one alone: AT ONCE", "'p00;' atOnce()=0 rounds()=0 bestOver()=-9");
    }

    /** Promise 31. */
    private static void ring() {
        test("RING: one owes another, not he him", TWO + "owe(0,1,5,9,0) ring(-1)=-9 ring(0)=-9 ring(1)=-9");
        test("RING of two", TWO + "owe(0,1,1,9,0) owe(1,0,1,9,0) ring(-1)=2 ring(0)=0 ring(1)=1 ring(2)=-9");
        test("RING of three", THREE + "owe(0,2,1,9,0) owe(2,1,1,9,0) owe(1,0,1,9,0) ring(-1)=3 ring(0)=0 ring(1)=2 ring(2)=1 ring(3)=-9");
        test("RING of seven", SEVEN + "'o060109=;o650109=;o540109=;o430109=;o320109=;o210109=;o100109=;' ring(-1)=7 ring(0)=0 "
                + "ring(1)=6 ring(6)=1 ring(7)=-9 ring(2147483647)=-9");
        test("RING of seven, one lacks", SEVEN + "'o060109=;o650109=;o540109=;o430109=;o320109=;o210109=;' ring(-1)=-9 ring(0)=-9");
        test("RING: i -2", TWO + "ring(-2)!-4 ring(-2147483648)!-4 owe(0,1,1,9,0) owe(1,0,1,9,0) ring(-2)!-4");
        test("RING: i -1 and 0 without one", TWO + "ring(-1)=-9 ring(0)=-9");
        test("RING: the last two of seven", SEVEN + "owe(5,6,1,9,0) owe(6,5,1,9,0) ring(-1)=2 ring(0)=5 ring(1)=6");
        test("RING: PAID ones do not owe", TWO + "owe(0,1,5,0,0) owe(1,0,5,9,0) ring(-1)=2 go() ring(-1)=-9 back() ring(-1)=2");
        test("RING: CANCELLED ones do not owe", TWO + "owe(0,1,5,0,0) owe(1,0,5,9,0) over(1,1) ring(-1)=-9");
        test("RING: LOST ones do not owe", TWO + "owe(0,1,5,0,1) owe(1,0,5,9,0) ring(-1)=2 go() ring(-1)=-9");
        test("RING: of one length the least first one", FOUR + "'o230109=;o320109=;o310109=;o130109=;' ring(0)=1 ring(1)=3");
        test("RING: then the least next one", FOUR + "'o030109=;o300109=;o020109=;o200109=;' ring(0)=0 ring(1)=2");
        test("RING: then the least one behind it", "'p00;p00;p00;p00;p00;' 'o010109=;o140109=;o400109=;o130109=;o300109=;' ring(-1)=3 "
                + "ring(0)=0 ring(1)=1 ring(2)=3");
        test("RING: a shorter one ahead of a lesser one", "'p00;p00;p00;p00;p00;' 'o010109=;o120109=;o200109=;o340109=;o430109=;' "
                + "ring(-1)=2 ring(0)=3 ring(1)=4");
        test("RING: who owes into it is not in it", FOUR + "'o030109=;o320109=;o120109=;o210109=;' ring(-1)=2 ring(0)=1 ring(1)=2");
        test("RING: whom nobody of it owes is not in it", "'p00;p00;p00;p00;p00;' 'o030109=;o340109=;o400109=;o140109=;' ring(-1)=3 ring(0)=0 "
                + "ring(1)=3 ring(2)=4");
        test("RING: three who owe, no ring", SEVEN + "'o310109=;o200109=;o040109=;' ring(-1)=-9");
        test("RING: a next one that leads to no short ring", FOUR + "'o010109=;o120109=;o230109=;o300109=;o030109=;' ring(-1)=2 "
                + "ring(0)=0 ring(1)=3");
    }

    /** Promise 32. */
    private static void roundIt() {
        test("ROUND IT: no ring", TWO + "owe(0,1,5,9,0) round()=-9");
        test("ROUND IT: 1", TWO + "owe(0,1,1,9,0) owe(1,0,40,9,0) round()=1");
        test("ROUND IT: the last owes the first least", THREE + "owe(0,1,7,9,0) owe(1,2,6,9,0) owe(2,0,5,9,0) round()=5");
        test("ROUND IT: the first owes the next least", THREE + "owe(0,1,5,9,0) owe(1,2,6,9,0) owe(2,0,7,9,0) round()=5");
        test("ROUND IT: all papers of two together", TWO + "8*owe(0,1,40,9,0) 8*owe(1,0,40,9,0) round()=320");
        test("ROUND IT: not what those outside owe", FOUR + "owe(0,1,7,9,0) owe(1,2,7,9,0) owe(2,0,7,9,0) owe(3,0,1,9,0) owe(2,3,1,9,0) "
                + "round()=7");
        test("ROUND IT: 5 and 6", SEVEN + "owe(5,6,3,9,0) owe(6,5,2,9,0) round()=2 owe(6,5,2,9,0) round()=3");
        test("ROUND IT: PAID ones no more", TWO + "owe(0,1,3,0,0) owe(0,1,2,9,0) owe(1,0,4,9,0) round()=4 go() round()=2");
    }

    /** Promise 33. */
    private static void stands() {
        test("UNWILLING: nothing owed", TWO + "unwilling(0,1) stands()=-9");
        test("UNWILLING: all settled now", TWO + "owe(0,1,5,9,0) stands()=-9");
        test("UNWILLING: one more than now", TWO + "owe(0,1,1,9,0) unwilling(0,1) through(0)=0 stands()=0");
        test("UNWILLING: nobody towards him", TWO + "owe(0,1,1,9,0) unwilling(1,0) stands()=0");
        test("UNWILLING: as much as now", THREE + "owe(0,1,1,9,0) unwilling(0,2) unwilling(2,1) stands()=-9");
        test("UNWILLING: all settled through one between", THREE + "owe(0,1,5,9,0) unwilling(0,1) stands()=-9");
        test("UNWILLING: of several the least", FOUR + "owe(2,3,5,9,0) 'u20;u21;u23;u30;u31;u32;' stands()=0");
        test("UNWILLING: a part is settled now", FOUR + "owe(0,1,5,9,0) owe(2,3,5,9,0) 'u20;u21;u23;' through(0)=5 stands()=0");
    }

    /** Promise 34. */
    private static void rich() {
        test("RICH: v 0", TWO + "rich(0,0)=0 rich(1,0)=0");
        test("RICH: v 1", TWO + "rich(0,1)=-9 owe(0,1,1,0,0) rich(1,1)=0 rich(0,1)=-9");
        test("RICH: v -1", TWO + "rich(0,-1)!-4 rich(0,-2147483648)!-4");
        test("RICH: v 999", TWO + "rich(0,999)=-9");
        test("RICH: v 1000", TWO + "rich(0,1000)!-6 rich(0,2147483647)!-6");
        test("RICH: just v, and one more", TWO + "owe(0,1,5,3,0) rich(1,5)=3 rich(1,6)=-9 rich(1,4)=3");
        test("RICH: by two DAYS", TWO + "owe(0,1,5,3,0) owe(0,1,5,7,0) rich(1,6)=7 rich(1,10)=7 rich(1,11)=-9");
        test("RICH: on DAY", TWO + "'d3;' owe(0,1,5,3,0) rich(1,5)=3");
        test("RICH: DUE ahead of DAY is PAID no more", TWO + "'d3;' owe(0,1,5,2,0) rich(1,5)=-9");
        test("RICH: on DAY 98", TWO + "owe(0,1,5,98,0) rich(1,5)=98");
        test("RICH: DAY is 98", TWO + TO_DAY_90 + "'d8;' owe(0,1,5,98,0) rich(1,5)=98 rich(1,0)=98 rich(1,6)=-9");
        test("RICH: DAY is 99", TWO + TO_DAY_90 + "'d9;' rich(1,0)=-9 rich(1,999)=-9 rich(1,1000)!-6");
        test("RICH: all 16", TWO + "16*owe(0,1,40,98,0) rich(1,640)=98 rich(1,641)=-9");
        test("RICH: he has it already", TWO + "owe(0,1,5,0,0) 3*go() rich(1,5)=3 rich(1,6)=-9");
        test("RICH: he has some already", TWO + "owe(0,1,5,0,0) 3*go() owe(0,1,1,9,0) rich(1,6)=9");
        test("RICH: what would be LOST", THREE + "owe(0,1,5,3,1) owe(2,1,5,4,0) unwilling(2,1) rich(1,1)=-9 unwilling(2,1) rich(1,1)=4");
        test("RICH: what another one holds", THREE + "owe(0,1,5,3,0) over(0,2) rich(1,1)=-9 rich(2,5)=3");
        test("RICH: the last of seven", SEVEN + "owe(0,6,5,3,0) rich(6,5)=3 rich(7,5)!-1");
        test("RICH: no such one", TWO + "rich(2,0)!-1 rich(-1,0)!-1");
        test("RICH: -1 is told ahead of -4 and -6", TWO + "rich(2,-1)!-1 rich(2,1000)!-1");
    }

    /** Promise 35. */
    private static void theLast() {
        test("LAST: no paper", TWO + "last()=-9");
        test("LAST: DUE 0", TWO + "owe(0,1,5,0,0) last()=0");
        test("LAST: DUE 98", TWO + "owe(0,1,5,98,0) last()=98");
        test("LAST: the greatest, wherever it stands", TWO + "owe(0,1,5,3,0) owe(0,1,5,9,0) owe(0,1,5,8,0) last()=9");
        test("LAST: paper 15", TWO + "15*owe(0,1,5,3,0) owe(0,1,5,4,0) last()=4");
        test("LAST: OPEN ones alone", TWO + "owe(0,1,5,0,0) owe(0,1,5,0,1) owe(0,1,5,9,0) over(2,0) last()=0 go() last()=-9");
        test("LAST: DUE ahead of DAY", TWO + "'d9;' owe(0,1,5,3,0) last()=3");
        test("LAST: FORGED, UNWILLING ones too", TWO + "owe(0,1,5,3,1) unwilling(0,1) last()=3");
    }

    /** Promise 36. */
    private static void paidBy() {
        String due5 = TWO + "owe(0,1,7,5,0) ";
        test("PAID BY: that DAY's, too", due5 + "paidBy(5)=7 paidBy(4)=0 paidBy(6)=7");
        test("PAID BY: DAY itself", due5 + "'d5;' paidBy(5)=7 paidBy(4)!-4");
        test("PAID BY: DAY 0", TWO + "owe(0,1,7,0,0) paidBy(0)=7");
        test("PAID BY: n -1", TWO + "paidBy(-1)!-4 paidBy(-2147483648)!-4");
        test("PAID BY: n 98", TWO + "owe(0,1,7,98,0) paidBy(98)=7 paidBy(97)=0");
        test("PAID BY: n 99", TWO + "paidBy(99)!-6 paidBy(2147483647)!-6");
        test("PAID BY: DAY is 98", TWO + TO_DAY_90 + "'d8;' owe(0,1,7,98,0) paidBy(98)=7 paidBy(97)!-4 paidBy(99)!-6");
        test("PAID BY: DAY is 99", TWO + TO_DAY_90 + "'d9;' owe(0,1,7,98,0) paidBy(98)!-4 paidBy(99)!-6 paidBy(100)!-6");
        test("PAID BY: DUE ahead of DAY", due5 + "'d3;' owe(0,1,9,2,0) paidBy(98)=7");
        test("PAID BY: PAID already", due5 + "'d6;' paidBy(98)=0");
        test("PAID BY: all 16", TWO + "8*owe(0,1,40,98,0) 8*owe(1,0,40,0,0) paidBy(98)=640 paidBy(0)=320");
        test("PAID BY: LOST ones", TWO + "owe(0,1,7,5,1) paidBy(98)=0 owe(0,1,9,5,0) paidBy(98)=9 unwilling(1,0) paidBy(98)=0");
    }

    /** Promise 37. */
    private static void trade() {
        String four = "'p10;p10;p10;p10;' ";
        test("TRADE: nothing held", four + "trade(0,1)=-9");
        test("TRADE: one holds nothing", four + "owe(2,0,5,9,0) trade(0,1)=-9 trade(1,0)=-9");
        test("TRADE: most alike", four + "owe(2,0,9,9,0) owe(2,0,1,9,0) owe(2,1,6,9,0) trade(0,1)=2 trade(1,0)=200");
        // 10 and 6: 8 for 6 leaves 8 and 8
        test("TRADE: alike to a quarter", four + "owe(2,0,8,9,0) owe(2,0,2,9,0) owe(3,1,6,9,0) trade(0,1)=2");
        // 5 and 3: 5 for 3 leaves 3 and 5
        test("TRADE: as much apart as now", four + "owe(2,0,5,9,0) owe(2,1,3,9,0) trade(0,1)=-9");
        test("TRADE: alike now", four + "owe(2,0,5,9,0) owe(2,1,5,9,0) trade(0,1)=-9");
        // 6 and 3: 6 and 1 for 3 .. 5 for 3 leaves 4 and 5
        test("TRADE: one less apart than now", four + "owe(2,0,5,9,0) owe(2,0,1,9,0) owe(2,1,3,9,0) trade(0,1)=2");
        test("TRADE: of several the least", four + "owe(2,0,8,9,0) owe(3,0,8,9,0) owe(2,1,6,9,0) owe(3,1,6,9,0) trade(0,1)=2 trade(1,0)=200");
        test("TRADE: 100 the first one's", four + "owe(2,1,4,9,0) owe(2,0,7,9,0) trade(0,1)=-9 owe(2,0,1,9,0) trade(0,1)=100");
        test("TRADE: not to its DEBTOR", four + "owe(1,0,8,9,0) owe(2,0,2,9,0) owe(3,1,6,9,0) trade(0,1)=-9");
        test("TRADE: not from its DEBTOR's side either", four + "owe(2,0,8,9,0) owe(2,0,2,9,0) owe(0,1,6,9,0) trade(0,1)=-9");
        test("TRADE: UNWILLING to take", four + "owe(2,0,8,9,0) owe(2,0,2,9,0) owe(3,1,6,9,0) unwilling(1,2) trade(0,1)=-9 "
                + "unwilling(1,2) unwilling(0,3) trade(0,1)=-9 trade(1,0)=-9");
        test("TRADE: UNWILLING towards one another", four + "owe(2,0,8,9,0) owe(2,0,2,9,0) owe(3,1,6,9,0) unwilling(0,1) "
                + "unwilling(1,0) trade(0,1)=2");
        test("TRADE: OPEN ones alone", four + "owe(2,0,8,0,0) owe(2,0,2,9,0) owe(3,1,6,9,0) trade(0,1)=2 go() trade(0,1)=-9");
        test("TRADE: by WORTH, not by QUARTERS", "'p10;p10;p00;p10;' owe(2,0,40,98,0) owe(3,0,3,9,0) owe(3,1,5,9,0) owe(3,1,4,9,0) "
                + "trade(0,1)=3 trade(1,0)=201");
        test("TRADE: papers 14 and 15", four + "14*owe(0,3,5,9,0) owe(2,0,9,9,0) owe(2,1,1,9,0) trade(0,1)=-9 over(13,0)=2 "
                + "over(12,1)=0 trade(0,1)=-9");
        test("TRADE: papers 13, 14 and 15", four + "13*owe(0,3,5,9,0) owe(2,0,6,9,0) owe(2,0,9,9,0) owe(2,1,5,9,0) trade(0,1)=1415 "
                + "trade(1,0)=1514");
        test("TRADE: one twice", four + "trade(0,0)!-1 trade(4,4)!-1");
        test("TRADE: no such one", four + "trade(0,4)!-1 trade(4,0)!-1 trade(-1,0)!-1 trade(0,-1)!-1");
    }

    /** Promise 38. */
    private static void heirs() {
        test("HEIRS: owes nothing", "'p10;p10;' owe(0,1,5,9,0) heirs(1)=0");
        test("HEIRS: all", "'p10;p10;p10;' 15*owe(0,1,40,98,0) owe(0,2,40,98,0) heirs(0)=640 heirs(1)=0");
        test("HEIRS: worth nothing", TWO + "owe(0,1,40,98,0) heirs(0)=0");
        test("HEIRS: not OPEN", "'p10;p10;' owe(0,1,5,0,0) owe(0,1,5,0,1) owe(0,1,5,9,0) over(2,0) heirs(0)=10 go() heirs(0)=0");
        test("HEIRS: the last of seven", SEVEN + "'d9;' owe(6,0,5,9,0) heirs(6)=5 heirs(7)!-1 heirs(-1)!-1");
        test("HEIRS: his own PURSE is not asked", "'p10;p10;' owe(0,1,5,9,0) owe(1,0,9,9,0) heirs(0)=5 heirs(1)=9");
    }

    /** Promise 39. */
    private static void stuck() {
        test("STUCK: no paper", TWO + "stuck()=0");
        test("STUCK: two PEOPLE", TWO + "owe(0,1,5,9,0) stuck()=1");
        test("STUCK: all 16", TWO + "16*owe(0,1,5,9,0) stuck()=65535");
        test("STUCK: a third one could", THREE + "owe(0,1,5,9,0) stuck()=0");
        test("STUCK: 0 alone could", THREE + "owe(1,2,5,9,0) stuck()=0 unwilling(0,1) stuck()=1");
        test("STUCK: 6 alone could", SEVEN + "owe(0,1,5,9,0) 'u20;u30;u40;u50;' stuck()=0");
        test("STUCK: a third one is UNWILLING", THREE + "owe(0,1,5,9,0) unwilling(2,0) stuck()=1");
        test("STUCK: a third one is UNWILLING towards its HOLDER", THREE + "owe(0,1,5,9,0) unwilling(2,1) stuck()=0");
        test("STUCK: the DEBTOR is UNWILLING", THREE + "owe(0,1,5,9,0) unwilling(0,2) stuck()=0");
        test("STUCK: five of seven UNWILLING", SEVEN + "owe(0,1,5,9,0) 'u20;u30;u40;u50;' stuck()=0 unwilling(6,0) stuck()=1");
        test("STUCK: not OPEN", TWO + "owe(0,1,5,0,0) owe(0,1,5,0,1) owe(0,1,5,9,0) over(2,0) stuck()=3 go() stuck()=0");
        test("STUCK: by its HOLDER of now", THREE + "owe(0,1,5,9,0) unwilling(1,0) over(0,2) stuck()=1");
        test("STUCK: FORGED, behind its DUE", TWO + "'d9;' owe(0,1,5,3,1) stuck()=1");
    }

    /** Promise 40. */
    private static void cancels() {
        test("CANCELS: nothing owed", TWO + "cancels()=0");
        test("CANCELS: one way alone", TWO + "owe(0,1,5,9,0) cancels()=0");
        test("CANCELS: the lesser", TWO + "owe(0,1,5,9,0) owe(1,0,4,9,0) cancels()=4 owe(1,0,2,9,0) cancels()=5");
        test("CANCELS: of each two", SEVEN + "'o010509=;o100409=;o560709=;o650909=;' cancels()=11");
        test("CANCELS: not round a ring", THREE + "'o010509=;o120509=;o200509=;' cancels()=0");
        test("CANCELS: all 16", TWO + "8*owe(0,1,40,9,0) 8*owe(1,0,40,9,0) cancels()=320");
        test("CANCELS: not OPEN", TWO + "owe(0,1,5,0,0) owe(1,0,4,9,0) cancels()=4 go() cancels()=0");
    }

    /** Promise 41. */
    private static void bestOver() {
        test("BEST OVER: no paper", THREE + "bestOver()=-9");
        test("BEST OVER: none but to its DEBTOR", TWO + "owe(0,1,5,9,0) bestOver()=0");
        test("BEST OVER: to its DEBTOR 1", TWO + "owe(1,0,5,9,0) bestOver()=1");
        // NETS -5 5 0: to 2 it is still one payment
        test("BEST OVER: as few as now", THREE + "owe(0,1,5,9,0) owe(1,2,5,9,0) owe(2,0,5,9,0) payments()=0 bestOver()=-9");
        test("BEST OVER: as few as now with any of 16", SEVEN + "16*owe(0,1,1,9,0) payments()=1 bestOver()=-9");
        test("BEST OVER: paper 15 to 6", SEVEN + "7*owe(0,1,1,9,0) 7*owe(1,0,1,9,0) owe(6,5,1,9,0) owe(5,4,1,9,0) payments()=1 "
                + "bestOver()=156");
        test("BEST OVER: another one takes it", FOUR + "'u20;u21;u10;' owe(0,1,5,9,0) owe(1,0,4,9,0) owe(1,2,1,9,0) bestOver()=20");
        test("BEST OVER: not who is UNWILLING", THREE + "owe(0,1,5,9,0) owe(2,0,5,9,0) payments()=1 bestOver()=2 unwilling(2,1) unwilling(0,2) "
                + "bestOver()=2 unwilling(2,0) bestOver()=-9");
        test("BEST OVER: of several the least", FOUR + "owe(2,3,5,9,0) owe(0,1,5,9,0) payments()=2 bestOver()=0 unwilling(0,2) bestOver()=2");
        test("BEST OVER: none OPEN", TWO + "owe(0,1,5,0,0) go() bestOver()=-9");
    }

    /** Promise 42. */
    private static void relieved() {
        test("RELIEVED: NET 0", TWO + "owe(0,1,5,9,0) owe(1,0,5,9,0) relieved(0,0)=0 relieved(0,1)=0");
        test("RELIEVED: NET -1", TWO + "owe(0,1,5,9,0) owe(1,0,4,9,0) relieved(0,0)=1 relieved(0,1)=1");
        test("RELIEVED: NET 1", TWO + "owe(0,1,5,9,0) owe(1,0,6,9,0) relieved(0,0)=0 relieved(0,1)=0 relieved(1,0)=1");
        test("RELIEVED: no papers", TWO + "relieved(0,0)=0 relieved(0,1)=0");
        test("RELIEVED: all 16", TWO + "16*owe(0,1,40,9,0) relieved(0,0)=16 relieved(0,1)=65535");
        test("RELIEVED: 15 of 16", TWO + "15*owe(0,1,40,9,0) owe(1,0,40,9,0) relieved(0,0)=14 relieved(0,1)=16383");
        test("RELIEVED: just enough", TWO + "owe(0,1,5,9,0) owe(0,1,6,9,0) owe(1,0,6,9,0) relieved(0,0)=1 relieved(0,1)=1");
        test("RELIEVED: one too few", TWO + "owe(0,1,5,9,0) owe(0,1,6,9,0) owe(1,0,5,9,0) relieved(0,0)=1 relieved(0,1)=2");
        test("RELIEVED: neither by itself", TWO + "owe(0,1,5,9,0) owe(0,1,6,9,0) owe(1,0,4,9,0) relieved(0,0)=2 relieved(0,1)=3");
        // lacks 9: 9 alone, 4 and 5 are two
        test("RELIEVED: fewest ahead of least bits", TWO + "owe(0,1,4,9,0) owe(0,1,5,9,0) owe(0,1,9,9,0) owe(1,0,9,9,0) relieved(0,0)=1 "
                + "relieved(0,1)=4");
        // lacks 10 of 7 3 8 2: 7 and 3, 3 and 8, 7 and 8, 8 and 2
        test("RELIEVED: of several the least bits", TWO + "owe(0,1,7,9,0) owe(0,1,3,9,0) owe(0,1,8,9,0) owe(0,1,2,9,0) owe(1,0,10,9,0) "
                + "relieved(0,0)=2 relieved(0,1)=3");
        test("RELIEVED: the largest is the first", TWO + "owe(0,1,9,9,0) owe(0,1,4,9,0) owe(0,1,5,9,0) owe(1,0,9,9,0) relieved(0,0)=1 "
                + "relieved(0,1)=1");
        // lacks 12 of 2 2 4 8: 8 and 4, not 8 and 2 and 2
        test("RELIEVED: no more than the fewest", TWO + "owe(0,1,2,9,0) owe(0,1,2,9,0) owe(0,1,4,9,0) owe(0,1,8,9,0) owe(1,0,4,9,0) "
                + "relieved(0,0)=2 relieved(0,1)=12");
        test("RELIEVED: OPEN ones alone", TWO + "owe(0,1,40,0,0) owe(0,1,5,9,0) relieved(0,1)=3 go() relieved(0,0)=1 relieved(0,1)=2 "
                + "over(1,0) relieved(0,0)=0");
        test("RELIEVED: what", TWO + "relieved(0,-1)!-2 relieved(0,2)!-2 relieved(0,2147483647)!-2 relieved(0,-2147483648)!-2");
        test("RELIEVED: no such one", TWO + "relieved(2,0)!-1 relieved(-1,0)!-1");
        test("RELIEVED: -1 is told ahead of -2", TWO + "relieved(2,2)!-1 relieved(-1,-1)!-1");
        test("RELIEVED: the last of seven", SEVEN + "owe(6,0,1,9,0) relieved(6,0)=1 relieved(7,0)!-1");
    }

    /** Promise 43. */
    private static void power() {
        test("POWER: holds none", THREE + "owe(0,1,5,9,0) power(0,2,0)=0 power(0,2,1)=1 power(0,0,0)=0 power(0,0,1)=1");
        test("POWER: nobody holds any", TWO + "power(0,1,0)=0 power(0,1,1)=1");
        test("POWER: he alone", TWO + "owe(0,1,1,9,0) power(0,1,0)=1 power(0,1,1)=1");
        test("POWER: just half", THREE + "owe(0,1,5,9,0) owe(0,2,5,9,0) power(0,1,0)=1 power(0,1,1)=2 power(0,2,0)=1 power(0,2,1)=2");
        test("POWER: one more than half", THREE + "owe(0,1,6,9,0) owe(0,2,5,9,0) power(0,1,0)=1 power(0,1,1)=1 power(0,2,0)=0 power(0,2,1)=1");
        test("POWER: holds some, never decides: 0 over 1", FOUR + "'o010909=;o020109=;o030109=;' power(0,2,0)=0 power(0,2,1)=1");
        test("POWER: lowest terms", FOUR + "'o010109=;o020109=;o030109=;' power(0,1,0)=1 power(0,1,1)=3");
        test("POWER: six alike", SEVEN + "'o010109=;o020109=;o030109=;o040109=;o050109=;o060109=;' power(0,1,0)=1 power(0,1,1)=6");
        // he must come second to fifth: with 1 to 4 ahead of him of five alike, of 10
        test("POWER: six, one has half", SEVEN + "'o010509=;o020109=;o030109=;o040109=;o050109=;o060109=;' power(0,1,0)=5 power(0,1,1)=6 "
                + "power(0,6,0)=1 power(0,6,1)=30");
        test("POWER: OPEN ones alone", THREE + "owe(0,1,5,0,0) owe(0,2,5,9,0) power(0,2,1)=2 go() power(0,2,1)=1 power(0,1,0)=0");
        test("POWER: part", TWO + "owe(0,1,5,9,0) power(0,1,-1)!-2 power(0,1,2)!-2 power(0,1,2147483647)!-2 power(0,1,-2147483648)!-2");
        test("POWER: no such one", TWO + "power(2,0,0)!-1 power(0,2,0)!-1 power(-1,0,0)!-1 power(0,-1,0)!-1");
        test("POWER: -1 is told ahead of -2", TWO + "power(2,0,2)!-1 power(0,2,-1)!-1");
        test("POWER: one twice is none of its refusals", TWO + "power(1,1,0)=0 count(11)=0");
    }

    /** Promise 44. */
    private static void atOnce() {
        test("AT ONCE: nothing owed", SEVEN + "atOnce()=0");
        test("AT ONCE: one", SEVEN + "owe(5,6,1,9,0) atOnce()=1");
        test("AT ONCE: three of seven", SEVEN + "'o010109=;o230109=;o540109=;' atOnce()=3");
        test("AT ONCE: a star", SEVEN + "'o010109=;o020109=;o030109=;o040109=;o050109=;o060109=;' atOnce()=1");
        test("AT ONCE: a triangle", THREE + "'o010109=;o120109=;o200109=;' atOnce()=1");
        test("AT ONCE: the middle one not", FOUR + "'o120909=;o010109=;o230109=;' atOnce()=2");
        test("AT ONCE: both ways are one two", TWO + "owe(0,1,5,9,0) owe(1,0,5,9,0) atOnce()=1");
        test("AT ONCE: behind ROUNDS", THREE + "'o010109=;o120109=;o200109=;' rounds()=3 atOnce()=1 rounds()=3");
        test("AT ONCE: not OPEN", TWO + "owe(0,1,5,0,0) atOnce()=1 go() atOnce()=0");
    }

    /** Promise 45; 7 and 8 twos stand in BoundariesTwo. */
    private static void rounds() {
        test("ROUNDS: nothing owed", SEVEN + "rounds()=0");
        test("ROUNDS: one", SEVEN + "owe(5,6,1,9,0) rounds()=1 owe(6,5,1,9,0) rounds()=1");
        test("ROUNDS: three twos apart", SEVEN + "'o010109=;o230109=;o540109=;' rounds()=1");
        test("ROUNDS: a path", FOUR + "'o010109=;o120109=;o230109=;' rounds()=2");
        test("ROUNDS: a triangle, more than one's twos", THREE + "'o010109=;o120109=;o200109=;' rounds()=3");
        test("ROUNDS: a ring of five", SEVEN + "'o010109=;o120109=;o230109=;o340109=;o400109=;' rounds()=3");
        test("ROUNDS: a ring of six", SEVEN + "'o010109=;o120109=;o230109=;o340109=;o450109=;o500109=;' rounds()=2");
        test("ROUNDS: seven twos round seven", SEVEN + "'o010109=;o120109=;o230109=;o340109=;o450109=;o560109=;o600109=;' rounds()=3");
        test("ROUNDS: not OPEN", TWO + "owe(0,1,5,0,0) rounds()=1 go() rounds()=0");
    }

    /** Promise 46. */
    private static void heaviest() {
        test("HEAVIEST: none", TWO + "heaviest(0)=0 heaviest(1)=0");
        test("HEAVIEST: one", TWO + "owe(0,1,1,9,0) heaviest(0)=1 heaviest(1)=1");
        test("HEAVIEST: of several the least", TWO + "owe(0,1,1,9,0) owe(0,1,5,9,0) owe(0,1,5,9,0) heaviest(0)=2 heaviest(1)=5");
        test("HEAVIEST: of two sets alike the least", FOUR + "'o020509=;o130509=;o030509=;o120509=;' heaviest(0)=3 heaviest(1)=10");
        test("HEAVIEST: no DEBTOR twice", FOUR + "'o010509=;o020509=;o030509=;' heaviest(0)=1 heaviest(1)=5");
        test("HEAVIEST: no HOLDER twice", FOUR + "'o100509=;o200509=;o300509=;' heaviest(0)=1 heaviest(1)=5");
        test("HEAVIEST: HOLDER of one, DEBTOR of another", TWO + "'o010509=;o100509=;' heaviest(0)=3 heaviest(1)=10");
        test("HEAVIEST: seven papers round seven", SEVEN + "'o010109=;o120109=;o230109=;o340109=;o450109=;o560109=;o600109=;' heaviest(0)=127 "
                + "heaviest(1)=7");
        test("HEAVIEST: DEBTOR 6 and HOLDER 0 of two papers", SEVEN + "owe(6,1,5,9,0) owe(2,0,5,9,0) heaviest(0)=3 heaviest(1)=10");
        test("HEAVIEST: between questions about HOLD", SEVEN + "owe(6,1,5,9,0) owe(2,0,5,9,0) owe(3,0,5,9,0) hold(0,2)=6 heaviest(0)=3 "
                + "heaviest(1)=10 hold(0,1)=2");
        test("HEAVIEST: 10 OPEN", TWO + "10*owe(0,1,40,9,0) heaviest(0)=1 heaviest(1)=40");
        test("HEAVIEST: 11 OPEN", TWO + "11*owe(0,1,40,9,0) heaviest(0)!-3 heaviest(1)!-3");
        test("HEAVIEST: 16 OPEN", TWO + "16*owe(0,1,40,9,0) heaviest(0)!-3");
        test("HEAVIEST: 10 OPEN of 16", TWO + "6*owe(0,1,40,0,0) 9*owe(0,1,4,9,0) owe(1,0,5,9,0) heaviest(0)!-3 go() heaviest(0)=32832 "
                + "heaviest(1)=9");
        test("HEAVIEST: what", TWO + "heaviest(-1)!-2 heaviest(2)!-2 heaviest(2147483647)!-2 heaviest(-2147483648)!-2");
        test("HEAVIEST: -2 is told ahead of -3", TWO + "11*owe(0,1,40,9,0) heaviest(2)!-2 heaviest(-1)!-2");
    }

    /** Promises 47 and 49. */
    private static void row() {
        test("ROW: 0", "row(0)=1 count(6)=1");
        test("ROW: -1", "row(-1)!-4 row(-2147483648)!-4 count(6)=0");
        test("ROW: 99", "row(99)=1");
        test("ROW: 100", "row(100)!-6 row(2147483647)!-6 count(6)=0");
        test("ROW: the 12th", "11*row(5) row(5)=12 count(6)=12");
        test("ROW: the 13th", "12*row(5) row(5)!-6 count(6)=12");
        test("ROW: the 13th below 0", "12*row(5) row(-1)!-4");
        test("ROW: the 13th above 99", "12*row(5) row(100)!-6");
        test("ROW: refused numbers leave no hole", TWO + "row(1) row(100)!-6 row(0) row(-1)!-4 row(0) row(1) fits()=1");
        test("clear: none", "clear()=0");
        test("clear: 12", "12*row(5) clear()=12 count(6)=0 clear()=0 row(5)=1");
        test("clear: 1", "row(5) clear()=1 row(7)=1");
    }

    /** Promise 48. */
    private static void judge() {
        String three = "'p10;p10;' owe(0,1,5,9,0) owe(0,1,6,9,0) owe(0,1,7,9,0) ";
        test("JUDGED: no ROW", three + "judge()=-9 count(6)=0");
        test("JUDGED: all so", three + "row(5) row(6) row(7) judge()=-9 count(6)=0");
        test("JUDGED: but the first", three + "row(5) judge()=-9 count(6)=0");
        test("JUDGED: the first not so", three + "row(4) row(6) row(8) judge()=0 count(6)=0");
        test("JUDGED: one below", three + "row(5) row(5) row(7) judge()=1");
        test("JUDGED: one above", three + "row(5) row(6) row(8) judge()=2");
        test("JUDGED: no such paper", three + "row(5) row(6) row(7) row(0) judge()=3 count(6)=0");
        test("JUDGED: no paper at all", "row(0) judge()=0 count(6)=0");
        test("JUDGED: 12 of 16", TWO + "'d9;' 16*owe(0,1,5,9,0) 12*row(5) judge()=-9 11*row(5) row(6) judge()=11");
        test("JUDGED: 12 of 11", TWO + "'d9;' 11*owe(0,1,5,9,0) 12*row(5) judge()=11");
        test("JUDGED: WORTH 0", TWO + "owe(0,1,5,0,0) owe(0,1,5,98,0) go() row(0) row(0) judge()=-9 row(5) judge()=0");
        test("JUDGED: by WORTH of now", TWO + "owe(0,1,40,2,0) row(39) go() judge()=0 row(40) judge()=-9");
        test("JUDGED: what was cleared is not asked", three + "row(9) clear() row(5) judge()=-9");
    }

    /** Promise 50. */
    private static void lots() {
        test("LOTS: n 0", TWO + "lots(0,1)!-4 lots(-1,1)!-4 lots(-2147483648,1)!-4");
        test("LOTS: n 1", TWO + "owe(0,1,5,9,0) lots(1,1)=5");
        test("LOTS: n 20", TWO + "owe(0,1,5,9,0) lots(20,1)=100");
        test("LOTS: n 21", TWO + "lots(21,1)!-6 lots(2147483647,1)!-6");
        test("LOTS: all 16 in 20 years", TWO + "16*owe(0,1,40,9,0) lots(20,7)=12800");
        test("LOTS: no paper", TWO + "lots(20,7)=0");
        test("LOTS: FORGED, UNWILLING", THREE + "owe(0,1,5,9,1) owe(0,2,7,9,0) owe(2,0,9,9,0) unwilling(2,0) lots(20,7)=0");
        test("LOTS: on DAY 99", TWO + TO_DAY_90 + "'d9;' owe(0,1,5,98,0) lots(20,7)=0");
        test("LOTS change nothing", TWO + "owe(0,1,5,9,0) lots(20,7)=100 count(4)=0 paper(0,3)=9 count(2)=0");
        test("LOTS: a DUE of its own matters not", TWO + "'d9;' owe(0,1,5,0,0) lots(1,101)=5");
        // seeds whose first DRAWS are 98, 97, 50, 49, 1, 0
        String on98 = TWO + TO_DAY_90 + "'d8;' owe(0,1,5,0,0) ";
        test("LOTS: a DRAW of 98 on DAY 98", on98 + "lots(1,101)=5 lots(1,202)=5 lots(1,-247)=5");
        test("LOTS: a DRAW of 97 on DAY 98", on98 + "lots(1,-45)=0 lots(1,56)=0");
        test("LOTS: a DRAW of 97 on DAY 97", TWO + TO_DAY_90 + "'d7;' owe(0,1,5,0,0) lots(1,-45)=5");
        String on50 = TWO + "'d9;d9;d9;d9;d9;d5;' owe(0,1,5,0,0) ";
        test("LOTS: a DRAW of 50 on DAY 50", on50 + "lots(1,17)=5 lots(1,-84)=5");
        test("LOTS: a DRAW of 49 on DAY 50", on50 + "lots(1,-28)=0 lots(1,73)=0");
        test("LOTS: a DRAW of 1 on DAY 1", TWO + "'d1;' owe(0,1,5,0,0) lots(1,-11)=5 lots(1,-56)=5");
        test("LOTS: a DRAW of 0 on DAY 1", TWO + "'d1;' owe(0,1,5,0,0) lots(1,0)=0 lots(1,45)=0");
        test("LOTS: a DRAW of 0 on DAY 0", TWO + "owe(0,1,5,0,0) lots(1,0)=5 lots(1,45)=5");
        // the seed 0 draws 0, then 84
        test("LOTS: a second DRAW goes on from the first", TWO + "'d9;d9;d9;d9;d9;d9;d9;d9;d9;d3;' owe(0,1,5,0,0) owe(0,1,7,0,0) lots(1,0)=7");
        test("LOTS: a second year goes on from the first", TWO + "'d9;d9;d9;d9;d9;d9;d9;d9;d9;d3;' owe(0,1,5,0,0) lots(1,0)=0 lots(2,0)=5");
        test("LOTS: no DRAW for what is not OPEN", TWO + "owe(0,1,9,0,0) 'd9;d9;d9;d9;d9;d9;d9;d9;d9;d3;' owe(0,1,5,0,0) owe(0,1,7,0,0) "
                + "lots(1,0)=7");
        test("LOTS: a DRAW for what is FORGED", TWO + "'d9;d9;d9;d9;d9;d9;d9;d9;d9;d3;' owe(0,1,5,0,1) owe(0,1,7,0,0) lots(1,0)=7");
    }

    /** Promise 50: z is an int and wraps; a DRAW leaves its sign out. */
    private static void wrappingSeeds() {
        int[] seeds = {Integer.MIN_VALUE, Integer.MIN_VALUE + 1, -1, 0, 1, 2, Integer.MAX_VALUE - 1, Integer.MAX_VALUE};
        for (int z : seeds) {
            for (int day = 0; day < 99; day++) {
                Told.due("LOTS with the seed " + z + " on DAY " + day, onDay(day).lots(20, z), lotsByLongs(z, day));
            }
        }
    }

    private static KissesOwed onDay(int day) {
        KissesOwed x = new KissesOwed();
        for (char letter : "p00;p00;".toCharArray()) {
            x.feed(letter);
        }
        x.street();
        for (int i = 0; i < day; i++) {
            x.go();
        }
        for (int quarters = 1; quarters <= 4; quarters *= 2) {
            x.owe(0, 1, quarters, 0, 0);
        }
        return x;
    }

    /** 20 years with papers of 1, 2 and 4, reckoned by longs that are kept within 32 bits. */
    private static int lotsByLongs(int z, int day) {
        long seed = z & 0xffffffffL;
        int paid = 0;
        for (int i = 0; i < 60; i++) {
            seed = (seed * 1103515245L + 12345L) % 4294967296L;
            long draw = seed % 2147483648L / 65536L % 99L;
            paid += draw >= day ? 1 << i % 3 : 0;
        }
        return paid;
    }

    /** Promises 51 and 52. */
    private static void image() {
        test("no IMAGE", "restore()!-3 restore()!-3");
        test("an IMAGE of nothing", "image()=0 'p00;p00;' restore()=0 count(0)=0 person(0,0)!-1");
        test("IMAGE on DAY 99", TO_DAY_90 + "'d9;' image()=99 restore()=99 go()!-6");
        test("RESTORED to DAY 0 from DAY 99", "image()=0 " + TO_DAY_90 + "'d9;' restore()=0 go()=1");
        test("RESTORED as often as one will", "go() image()=1 go() restore()=1 restore()=1 go() go() restore()=1");
        test("the later IMAGE alone", "image()=0 go() image()=1 go() restore()=1 restore()=1");
        test("what comes behind it does not change it", TWO + "image() unwilling(0,1) owe(0,1,5,0,0) go() restore()=0 person(0,4)=0 "
                + "count(1)=0 unwilling(0,1) restore()=0 person(0,4)=0");
        test("what is RESTORED does not change it", TWO + "owe(0,1,5,0,0) image() restore() go() person(1,2)=5 restore() person(1,2)=0 "
                + "paper(0,5)=0");
        test("TAKEN BACK beyond it", "go() image()=1 back()=0 restore()=1 back()!-3");
        test("it is not in itself", "image()=0 go() image()=1 restore()=1 restore()=1 count(2)=1");
    }

    private static void whatTheImageHas() {
        test("IMAGE: full", SEVEN + "16*owe(5,6,40,98,1) image()=0 restore()=0 count(0)=7 count(1)=16 'p00;'~-2000 owe(0,1,1,1,0)!-6 "
                + "paper(15,2)=40 paper(15,3)=98 paper(15,4)=1 paper(15,0)=5 paper(15,1)=6");
        test("IMAGE: KIND and FIGURE", "'p59;' image() 'p13;' restore() person(0,0)=5 person(0,1)=9 person(1,0)!-1");
        test("IMAGE: KISSED", TWO + "owe(0,1,5,0,0) go() image()=1 owe(1,0,7,1,0) go() person(0,2)=7 restore()=1 person(0,2)=0 person(1,2)=5");
        test("IMAGE: UNWILLING", TWO + "unwilling(0,1) image() unwilling(0,1) unwilling(1,0) restore() person(0,4)=2 person(1,4)=0");
        test("IMAGE: HOLDER and CANCELLED", THREE + "owe(0,1,5,9,0) image() over(0,2) restore() paper(0,1)=1 over(0,0) restore() paper(0,5)=0");
        test("IMAGE: PAID, CANCELLED, LOST", THREE + "owe(0,1,5,0,0) owe(0,1,5,0,1) owe(0,1,5,9,0) over(2,0) go() image() back() back() "
                + "count(3)=3 restore() paper(0,5)=1 paper(1,5)=3 paper(2,5)=2");
        test("IMAGE: fewer PEOPLE and papers", TWO + "owe(0,1,5,9,0) image() 'p00;o200109=;' restore() count(0)=2 count(1)=1 person(2,0)!-1 "
                + "paper(1,0)!-1 inIt()=3");
        test("IMAGE: more PEOPLE come behind it as new", TWO + "image() 'p33;u20;u21;' restore() 'p11;' person(2,0)=1 person(2,4)=0");
        test("IMAGE: letters stay", "feed(100) image() feed(49) restore() count(5)=2 feed(59) street()=1");
        test("IMAGE: letters do not come back", "feed(100) image() feed(49) feed(59) street()=1 restore()=0 count(5)=0");
        test("IMAGE: the ROW stays", "row(1) image() row(2) restore() count(6)=2 clear() restore() count(6)=0");
        test("IMAGE: REFUSALS stay", "feed(-1)!-4 image() feed(-1)!-4 restore() count(14)=2");
        test("IMAGE: nothing to be TAKEN BACK comes with it", "go() image()=1 go() restore()=1 count(7)=0 back()!-3");
    }

    /** Promise 53. */
    private static void counts() {
        test("count: PEOPLE", SEVEN + "count(0)=7");
        test("count: papers", TWO + "16*owe(0,1,5,0,0) go() count(1)=16 count(3)=0");
        test("count: DAY", TO_DAY_90 + "'d9;' count(2)=99");
        test("count: OPEN ones", TWO + "16*owe(0,1,5,0,0) count(3)=16 over(0,0) count(3)=15 go() count(3)=0");
        test("count: all KISSED", TWO + "8*owe(0,1,40,0,0) 8*owe(1,0,40,0,0) go() count(4)=640");
        test("count: letters", "96*feed(5) count(5)=96 feed(5)!-6 count(5)=96 street()=-1000 count(5)=0");
        test("count: in the ROW", "12*row(5) count(6)=12 row(5)!-6 count(6)=12");
        test("count: what can be TAKEN BACK", "8*go() count(7)=8 go() count(7)=8 back() count(7)=7");
        for (int what : new int[] {-1, 8, 9, 10, 17, 18, -11, -16, Integer.MAX_VALUE, Integer.MIN_VALUE}) {
            test("count: what " + what, "go() back() back()!-3 count(" + what + ")=-9 count(12)=0");
        }
    }

    /** Promise 53: REFUSALS, each counted for itself. */
    private static void refusals() {
        test("REFUSALS: -1", "net(0)!-1 count(11)=1 owes(0,0)!-1 power(0,0,0)!-1 count(11)=3 count(12)=0");
        test("REFUSALS: -2", "through(2)!-2 count(12)=1 square(2)!-2 heaviest(2)!-2 count(12)=3 count(11)=0 count(13)=0");
        test("REFUSALS: -3", "back()!-3 count(13)=1 restore()!-3 fits()!-3 count(13)=3 count(12)=0 count(14)=0");
        test("REFUSALS: -4", "feed(-1)!-4 count(14)=1 row(-1)!-4 looks(-1)!-4 count(14)=3 count(13)=0 count(15)=0");
        test("REFUSALS: -5 there are none", "net(0)!-1 through(2)!-2 back()!-3 feed(-1)!-4 feed(256)!-6 count(15)=0");
        test("REFUSALS: -6", "feed(256)!-6 count(16)=1 row(100)!-6 looks(100)!-6 count(16)=3 count(15)=0 count(17)=-9");
        test("REFUSALS: of longs", TWO + "owe(0,1,5,50,0) deaths(1,2,0)!-1 deaths(0,1,0)!-4 deaths(0,21,0)!-6 deaths(0,2,2)!-2 deaths(0,2,0)!-3 "
                + "count(11)=1 count(12)=1 count(13)=1 count(14)=1 count(16)=1");
        test("REFUSALS: -9 is none", TWO + "boss(0)=-9 last()=-9 count(-9)=-9 soonest(0)=-9 count(11)=0 count(12)=0 count(13)=0 count(14)=0 "
                + "count(15)=0 count(16)=0");
        test("REFUSALS: an answer below 0 is none", TWO + "owe(0,1,3,9,0) net(0)=-3 count(13)=0 owe(0,1,1,9,0) net(0)=-4 count(14)=0");
        test("REFUSALS: many", "100*back()!-3 count(13)=100");
    }
}
