import java.util.regex.Matcher;
import java.util.regex.Pattern;

/** Boundary cases of promises 1 to 10: what comes and changes. Each test() is one of them; see Told for its words. */
public final class BoundariesOne {
    private static final String SEVEN = "'p00;p00;p00;p00;p00;p00;p00;' ";
    private static final String TO_DAY_90 = "'d9;d9;d9;d9;d9;d9;d9;d9;d9;d9;' ";

    private static void test(String name, String run) {
        Told.test(name, run);
    }

    public static void main(String[] args) {
        newObject();
        letters();
        people();
        papers();
        unwilling();
        owe();
        worthByDays();
        worthByKind();
        allWorths();
        over();
        go();
        whoIsPaid();
        back();
        whatLeavesNone();
        streetNumbers();
        streetRoom();
        streetOrder();
        everyLetterAtEveryPlace();
        fullOfCalls();
        Told.end();
    }

    /** Promise 1. */
    private static void newObject() {
        test("new: nobody", "count(0)=0 person(0,0)!-1 person(-1,0)!-1 unwilling(0,1)!-1 over(0,0)!-1");
        test("new: no paper", "count(1)=0 paper(0,0)!-1 paper(-1,0)!-1 count(3)=0");
        test("new: DAY 0", "count(2)=0 image()=0 go()=1");
        test("new: nobody KISSED", "count(4)=0");
        test("new: no letters", "count(5)=0 street()=-1000");
        test("new: no ROW", "count(6)=0 clear()=0 judge()=-9 fits()!-3");
        test("new: nothing to be TAKEN BACK", "count(7)=0 back()!-3");
        test("new: no REFUSALS", "count(11)=0 count(12)=0 count(13)=0 count(14)=0 count(15)=0 count(16)=0");
        test("new: no IMAGE", "restore()!-3");
        KissesOwed x = new KissesOwed();
        KissesOwed y = new KissesOwed();
        x.go();
        x.feed('p');
        x.row(5);
        x.feed(-1);
        x.image();
        for (int what = 0; what <= 16; what++) {
            Told.due("new, beside another one: count(" + what + ")", y.count(what), what >= 8 && what <= 10 ? -9 : 0);
        }
        Told.due("new, beside another one: restore()", y.restore(), -3);
    }

    /** Promise 2. */
    private static void letters() {
        test("letter 0 is taken", "feed(0)=1 count(5)=1");
        test("letter 1 is taken", "feed(1)=1");
        test("letter -1 is not", "feed(-1)!-4 count(5)=0");
        test("the least int is no letter", "feed(-2147483648)!-4");
        test("letter 255 is taken", "feed(255)=1 count(5)=1");
        test("letter 256 is not", "feed(256)!-6 count(5)=0");
        test("the greatest int is no letter", "feed(2147483647)!-6");
        test("letter 256 + 'p' is no p", "feed(368)!-6 feed(112)=1");
        test("the 96th letter is taken", "95*feed(59) feed(59)=96 count(5)=96");
        test("the 97th is not", "96*feed(59) feed(59)!-6 count(5)=96");
        test("the 97th below 0 is told first", "96*feed(59) feed(-1)!-4 count(5)=96");
        test("the 97th above 255", "96*feed(59) feed(256)!-6 count(5)=96");
        test("behind a full STREET there is room again", "32*feed(100) 32*feed(48) 32*feed(59) street()=-1001 feed(59)=1");
        test("refused letters leave no hole", "feed(100) feed(-1)!-4 feed(49) feed(300)!-6 feed(59) street()=1 count(2)=1");
    }

    /** Promise 4. */
    private static void people() {
        test("person 0 of 1", "'p37;' person(0,0)=3 person(0,1)=7 person(1,0)!-1 person(-1,0)!-1");
        test("person 6 of 7", SEVEN + "person(6,0)=0 person(7,0)!-1 count(0)=7");
        test("person 5 of 6", "'p00;p00;p00;p00;p00;p51;' person(5,0)=5 person(6,0)!-1");
        test("far out", SEVEN + "person(2147483647,0)!-1 person(-2147483648,0)!-1");
        test("what 0 is the least", "'p43;' person(0,0)=4 person(0,-1)!-2 person(0,-2147483648)!-2");
        test("what 4 is the greatest", "'p43;' person(0,4)=0 person(0,5)!-2 person(0,2147483647)!-2");
        test("nobody is told ahead of what", "'p43;' person(1,5)!-1 person(1,-1)!-1 person(-1,9)!-1");
        test("KISSED is 0 at first", "'p43;' person(0,2)=0");
        test("PURSE is 0 at first", "'p43;' person(0,3)=0");
        test("UNWILLING not at first", "'p43;p00;' person(0,4)=0 person(1,4)=0");
        test("UNWILLING towards all six others", SEVEN + "unwilling(6,0) unwilling(6,1) unwilling(6,2) unwilling(6,3) "
                + "unwilling(6,4) unwilling(6,5) person(6,4)=63");
        test("UNWILLING towards 6", SEVEN + "unwilling(0,6)=1 person(0,4)=64 person(6,4)=0");
        test("PURSE of all 16", "'p10;p10;' 16*owe(0,1,40,98,0) person(1,3)=640 person(0,3)=0");
        test("PURSE has but OPEN ones", "'p10;p10;p10;' owe(0,1,8,0,0) owe(0,1,4,0,1) owe(0,1,2,5,0) owe(0,1,1,5,0) "
                + "person(1,3)=15 go() person(1,3)=3 over(2,0) person(1,3)=1 person(0,3)=0");
        test("KISSED of all 16", "'p00;p00;' 16*owe(0,1,40,0,0) go() person(1,2)=640 person(0,2)=0 count(4)=640");
    }

    /** Promise 5. */
    private static void papers() {
        test("paper 0 of 1", "'p00;p00;o010523x;' paper(0,0)=0 paper(0,1)=1 paper(0,2)=5 paper(0,3)=23 paper(0,4)=1 "
                + "paper(0,5)=0 paper(1,0)!-1 paper(-1,0)!-1");
        test("paper 15 of 16", "'p00;p00;' 15*owe(0,1,1,0,0) owe(1,0,2,7,0)=15 paper(15,0)=1 paper(15,2)=2 paper(16,0)!-1");
        test("paper 14 of 15", "'p00;p00;' 15*owe(0,1,1,0,0) paper(14,2)=1 paper(15,2)!-1");
        test("far out", "'p00;p00;o010523x;' paper(2147483647,0)!-1 paper(-2147483648,0)!-1");
        test("what 0 is the least", "'p00;p00;o010523x;' paper(0,0)=0 paper(0,-1)!-2 paper(0,-2147483648)!-2");
        test("what 6 is the greatest", "'p10;p00;o010523x;' paper(0,6)=5 paper(0,7)!-2 paper(0,2147483647)!-2");
        test("no paper is told ahead of what", "'p00;p00;o010523x;' paper(1,7)!-1 paper(1,-1)!-1 paper(-1,9)!-1");
        test("OPEN at first", "'p00;p00;' owe(0,1,1,0,0) paper(0,5)=0 count(3)=1");
        test("not FORGED", "'p00;p00;' owe(0,1,1,0,0) paper(0,4)=0");
        test("PAID is 1", "'p00;p00;o010500=;d1;' paper(0,5)=1 count(3)=0");
        test("CANCELLED is 2", "'p00;p00;o010500=;m000;' paper(0,5)=2 count(3)=0");
        test("LOST is 3", "'p00;p00;o010500x;d1;' paper(0,5)=3 count(3)=0");
    }

    /** Promise 6. */
    private static void unwilling() {
        test("the first time 1, then 0, then 1", "'p00;p00;' unwilling(0,1)=1 unwilling(0,1)=0 unwilling(0,1)=1");
        test("one way alone", "'p00;p00;' unwilling(0,1)=1 person(0,4)=2 person(1,4)=0 unwilling(1,0)=1 unwilling(0,1)=0 "
                + "person(0,4)=0 person(1,4)=1");
        test("one twice", "'p00;p00;' unwilling(0,0)!-1 unwilling(1,1)!-1");
        test("no such one", "'p00;p00;' unwilling(2,0)!-1 unwilling(0,2)!-1 unwilling(-1,0)!-1 unwilling(0,-1)!-1");
        test("one twice, no such one", "'p00;p00;' unwilling(2,2)!-1 unwilling(-1,-1)!-1");
        test("the last two of seven", SEVEN + "unwilling(5,6)=1 unwilling(6,5)=1 unwilling(6,7)!-1 unwilling(7,6)!-1");
        test("the int that wraps to 1", "'p00;p00;' unwilling(0,33)!-1 unwilling(33,0)!-1 unwilling(2147483647,0)!-1");
    }

    /** Promise 7. */
    private static void owe() {
        String two = "'p00;p00;' ";
        test("the first paper is 0, the next 1", two + "owe(0,1,5,5,0)=0 owe(1,0,5,5,0)=1 count(1)=2");
        test("1 quarter", two + "owe(0,1,1,5,0)=0 paper(0,2)=1");
        test("0 quarters", two + "owe(0,1,0,5,0)!-4 owe(0,1,-1,5,0)!-4 owe(0,1,-2147483648,5,0)!-4");
        test("40 quarters", two + "owe(0,1,40,5,0)=0 paper(0,2)=40");
        test("41 quarters", two + "owe(0,1,41,5,0)!-6 owe(0,1,2147483647,5,0)!-6");
        test("DUE 0", two + "owe(0,1,5,0,0)=0 paper(0,3)=0");
        test("DUE -1", two + "owe(0,1,5,-1,0)!-4 owe(0,1,5,-2147483648,0)!-4");
        test("DUE 98", two + "owe(0,1,5,98,0)=0 paper(0,3)=98");
        test("DUE 99", two + "owe(0,1,5,99,0)!-6 owe(0,1,5,2147483647,0)!-6");
        test("forged 0", two + "owe(0,1,5,5,0)=0 paper(0,4)=0");
        test("forged 1", two + "owe(0,1,5,5,1)=0 paper(0,4)=1");
        test("forged -1", two + "owe(0,1,5,5,-1)!-2 owe(0,1,5,5,-2147483648)!-2");
        test("forged 2", two + "owe(0,1,5,5,2)!-2 owe(0,1,5,5,2147483647)!-2");
        test("the 16th paper", two + "15*owe(0,1,5,5,0) owe(0,1,5,5,0)=15 count(1)=16");
        test("the 17th paper", two + "16*owe(0,1,5,5,0) owe(0,1,5,5,0)!-6 count(1)=16");
        test("papers that are not OPEN take room too", two + "16*owe(0,1,5,0,0) over(0,0)=2 go() count(3)=0 "
                + "owe(0,1,5,5,0)!-6");
        test("no DEBTOR", two + "owe(2,1,5,5,0)!-1 owe(-1,1,5,5,0)!-1");
        test("no HOLDER", two + "owe(0,2,5,5,0)!-1 owe(0,-1,5,5,0)!-1");
        test("one twice", two + "owe(0,0,5,5,0)!-1 owe(1,1,5,5,0)!-1");
        test("nobody at all", "owe(0,1,5,5,0)!-1 owe(0,0,5,5,0)!-1");
        test("6 and 5 of seven", SEVEN + "owe(6,5,5,5,0)=0 owe(5,6,5,5,0)=1 owe(7,6,5,5,0)!-1 owe(6,7,5,5,0)!-1");
        test("-1 is told ahead of -2", two + "owe(0,2,5,5,2)!-1 owe(0,0,5,5,-1)!-1");
        test("-1 is told ahead of -4", two + "owe(0,2,0,5,0)!-1 owe(0,0,5,-1,0)!-1");
        test("-1 is told ahead of -6", two + "16*owe(0,1,5,5,0) owe(0,0,41,99,0)!-1");
        test("-2 is told ahead of -4", two + "owe(0,1,0,5,2)!-2 owe(0,1,5,-1,-1)!-2");
        test("-2 is told ahead of -6", two + "16*owe(0,1,5,5,0) owe(0,1,41,99,2)!-2");
        test("-4 of quarters is told ahead of -6 of DUE", two + "owe(0,1,0,99,0)!-4");
        test("-4 of DUE is told ahead of -6 of quarters", two + "owe(0,1,41,-1,0)!-4");
        test("-4 is told ahead of no room", two + "16*owe(0,1,5,5,0) owe(0,1,0,5,0)!-4 owe(0,1,5,-1,0)!-4");
        test("DUE ahead of DAY may be", two + "3*go() owe(0,1,5,2,0)=0 owe(0,1,5,0,0)=1 owe(0,1,5,3,0)=2");
        test("UNWILLING ones may owe", two + "unwilling(0,1) unwilling(1,0) owe(0,1,5,5,0)=0");
    }

    /** Promise 5: WORTH by the DAYS till DUE. */
    private static void worthByDays() {
        int[][] worths = {{40, 0, 40}, {40, 1, 40}, {40, 2, 39}, {40, 24, 21}, {40, 25, 20}, {40, 48, 2}, {40, 49, 1},
            {40, 50, 0}, {40, 51, 0}, {40, 98, 0}, {1, 0, 1}, {1, 1, 1}, {1, 49, 1}, {1, 50, 0}, {1, 98, 0}, {25, 1, 25},
            {25, 2, 24}, {25, 3, 24}, {25, 4, 23}, {2, 24, 2}, {2, 25, 1}, {2, 49, 1}, {2, 50, 0}};
        for (int[] w : worths) {
            test("WORTH of a PERSON's " + w[0] + ", " + w[1] + " DAYS till DUE",
                    "'p07;p00;' owe(0,1," + w[0] + "," + w[1] + ",0) paper(0,6)=" + w[2] + " person(1,3)=" + w[2]);
        }
        test("WORTH on the DAY of its DUE", "'p00;p00;d9;' owe(0,1,25,9,0) paper(0,6)=25");
        test("WORTH a DAY ahead of its DUE", "'p00;p00;d8;' owe(0,1,40,10,0) paper(0,6)=39 go() paper(0,6)=40");
        test("WORTH behind its DUE", "'p00;p00;d9;' owe(0,1,25,8,0) paper(0,6)=25 owe(0,1,25,0,0) paper(1,6)=25");
        test("WORTH 50 DAYS behind its DUE", "'p00;p00;d9;d9;d9;d9;d9;d9;' owe(0,1,25,0,0) paper(0,6)=25");
        test("WORTH rises by DAYS: 51, 50, 49 till DUE", "'p00;p00;' owe(0,1,40,51,0) paper(0,6)=0 go() paper(0,6)=0 go() "
                + "paper(0,6)=1");
        test("WORTH is 0 when PAID", "'p00;p00;o010500=;o010500=;m000;d1;' paper(1,6)=0 person(1,3)=0");
        test("WORTH is 0 when CANCELLED", "'p00;p00;o010500=;m000;' paper(0,6)=0 person(0,3)=0");
        test("WORTH is 0 when LOST", "'p00;p00;o010500x;' paper(0,6)=5 go() paper(0,6)=0 person(1,3)=0");
    }

    private static void worthByKind() {
        // KIND, FIGURE, QUARTERS, DUE, FORGED, WORTH
        int[][] worths = {{0, 9, 9, 0, 1, 9}, {1, 9, 40, 98, 0, 40}, {1, 9, 1, 98, 0, 1}, {1, 0, 9, 0, 1, 9},
            {2, 9, 1, 0, 0, 0}, {2, 9, 2, 0, 0, 1}, {2, 0, 3, 0, 0, 1}, {2, 0, 40, 0, 1, 20}, {2, 0, 40, 2, 0, 19},
            {2, 0, 40, 49, 0, 0}, {2, 0, 40, 48, 0, 1}, {2, 0, 40, 98, 0, 0}, {3, 0, 5, 0, 0, 5}, {3, 9, 8, 0, 0, 0},
            {3, 9, 9, 0, 0, 0}, {3, 9, 10, 0, 0, 1}, {3, 1, 40, 49, 0, 0}, {3, 0, 40, 49, 0, 1}, {3, 9, 40, 98, 0, 0},
            {3, 1, 2, 0, 1, 1}, {4, 9, 1, 0, 0, 1}, {4, 9, 9, 0, 0, 9}, {4, 9, 10, 0, 0, 9}, {4, 9, 11, 0, 0, 10},
            {4, 0, 19, 0, 0, 18}, {4, 0, 20, 0, 0, 18}, {4, 0, 39, 98, 0, 36}, {4, 0, 40, 98, 1, 36}, {5, 9, 1, 0, 0, 0},
            {5, 9, 2, 0, 0, 1}, {5, 9, 40, 0, 0, 20}, {5, 9, 40, 0, 1, 0}, {5, 0, 2, 0, 1, 0}, {5, 0, 40, 49, 0, 0},
            {5, 0, 40, 98, 0, 0}};
        for (int[] w : worths) {
            test("WORTH by KIND " + w[0] + ", FIGURE " + w[1] + ", QUARTERS " + w[2] + ", DUE " + w[3] + ", FORGED " + w[4],
                    "'p" + w[0] + w[1] + ";p39;' owe(0,1," + w[2] + "," + w[3] + "," + w[4] + ") paper(0,6)=" + w[5]);
        }
        test("WORTH is by its DEBTOR, not its HOLDER", "'p10;p20;p39;o014000=;' paper(0,6)=40 over(0,2) paper(0,6)=40");
    }

    /** Each number of QUARTERS and each DUE for each KIND; of hundredths as many as are whole. */
    private static void allWorths() {
        for (int kind = 0; kind <= 5; kind++) {
            for (int figure = 0; figure <= 9; figure += 3) {
                for (int due = 0; due <= 98; due++) {
                    for (int least = 1; least <= 40; least += 10) {
                        worths(kind, figure, due, least);
                    }
                }
            }
        }
    }

    private static void worths(int kind, int figure, int due, int least) {
        KissesOwed x = new KissesOwed();
        for (char letter : ("p" + kind + figure + ";p00;").toCharArray()) {
            x.feed(letter);
        }
        x.street();
        for (int i = 0; i < 10; i++) {
            int quarters = least + i;
            x.owe(0, 1, quarters, due, i % 2);
            int off = 0;
            while ((off + 1) * 100 <= quarters * 2 * due && off < quarters) {
                off++;
            }
            int person = quarters - off;
            int tenths = 0;
            while ((tenths + 1) * 10 <= quarters) {
                tenths++;
            }
            int[] worth = {person, quarters, (person - person % 2) / 2, Math.max(0, person - figure), quarters - tenths,
                i % 2 == 1 ? 0 : (person - person % 2) / 2};
            Told.due("WORTH of " + quarters + " by KIND " + kind + " and FIGURE " + figure + ", DUE " + due, x.paper(i, 6), worth[kind]);
        }
    }

    /** Promise 8. */
    private static void over() {
        String three = "'p00;p00;p00;o010505=;' ";
        test("to a third one", three + "over(0,2)=0 paper(0,1)=2 paper(0,5)=0");
        test("to its HOLDER", three + "over(0,1)!-3 paper(0,1)=1");
        test("to its HOLDER of now, not of once", three + "over(0,2)=0 over(0,2)!-3 over(0,1)=0");
        test("to its DEBTOR", three + "over(0,0)=2 paper(0,1)=0 paper(0,5)=2 count(3)=0 count(1)=1");
        test("PAID ones can not", "'p00;p00;p00;o010500=;d1;' over(0,2)!-3 over(0,0)!-3 over(0,1)!-3");
        test("CANCELLED ones can not", three + "over(0,0)=2 over(0,2)!-3 over(0,1)!-3 over(0,0)!-3");
        test("LOST ones can not", "'p00;p00;p00;o010500x;d1;' over(0,2)!-3 over(0,0)!-3");
        test("UNWILLING towards its DEBTOR", three + "unwilling(2,0) over(0,2)!-3 unwilling(2,0) over(0,2)=0");
        test("its DEBTOR UNWILLING towards him who takes", three + "unwilling(0,2) over(0,2)=0");
        test("its HOLDER UNWILLING towards him who takes", three + "unwilling(1,2) over(0,2)=0");
        test("UNWILLING towards its HOLDER", three + "unwilling(2,1) over(0,2)=0");
        test("its HOLDER UNWILLING towards its DEBTOR", three + "unwilling(1,0) over(0,2)=0 over(0,1)!-3");
        test("to its DEBTOR, UNWILLING towards all", three + "unwilling(0,1) unwilling(0,2) over(0,0)=2");
        test("FORGED ones can too", "'p00;p00;p00;o010505x;' over(0,2)=0 over(0,0)=2");
        test("behind its DUE it can too", "'p00;p00;p00;d2;o010501=;' over(0,2)=0");
        test("no such paper", three + "over(1,2)!-1 over(-1,2)!-1 over(2147483647,2)!-1 over(-2147483648,2)!-1");
        test("no such one", three + "over(0,3)!-1 over(0,-1)!-1 over(0,2147483647)!-1");
        test("-1 is told ahead of -3", three + "over(0,0) over(0,3)!-1 over(1,1)!-1");
        test("paper 15 to person 6", SEVEN + "16*owe(0,1,5,5,0) over(15,6)=0 paper(15,1)=6 over(16,6)!-1 over(15,7)!-1");
    }

    /** Promise 9. */
    private static void go() {
        test("from DAY 0", "go()=1 count(2)=1");
        test("from DAY 98 to 99", TO_DAY_90 + "'d8;' count(2)=98 go()=99 count(2)=99");
        test("from DAY 99", TO_DAY_90 + "'d9;' count(2)=99 go()!-6 go()!-6 count(2)=99");
        test("from DAY 99 with an OPEN paper", "'p00;p00;' " + TO_DAY_90 + "'d9;o010598=;' go()!-6 paper(0,5)=0");
        test("DUE on DAY", "'p00;p00;d3;o010503=;' go()=4 paper(0,5)=1 person(1,2)=5");
        test("DUE the DAY before", "'p00;p00;d3;o010502=;' go()=4 paper(0,5)=0 person(1,2)=0");
        test("DUE the DAY behind", "'p00;p00;d3;o010504=;' go()=4 paper(0,5)=0 go()=5 paper(0,5)=1");
        test("DUE on DAY 98", "'p00;p00;o010598=;' " + TO_DAY_90 + "'d8;' paper(0,5)=0 go()=99 paper(0,5)=1");
        test("DUE on DAY 0", "'p00;p00;o010500=;' go()=1 paper(0,5)=1");
        test("PAID but once", "'p00;p00;o010500=;' 3*go() person(1,2)=5");
        test("all 16 on one DAY", "'p00;p00;' 8*owe(0,1,40,0,0) 8*owe(1,0,1,0,0) go() person(1,2)=320 person(0,2)=8 count(3)=0");
        test("CANCELLED ones are not PAID", "'p00;p00;o010500=;m000;' go() paper(0,5)=2 count(4)=0");
    }

    private static void whoIsPaid() {
        test("FORGED: LOST", "'p00;p00;o010500x;' go() paper(0,5)=3 count(4)=0");
        test("DEBTOR UNWILLING towards its HOLDER: LOST", "'p00;p00;o010500=;u01;' go() paper(0,5)=3 count(4)=0");
        test("HOLDER UNWILLING towards its DEBTOR: LOST", "'p00;p00;o010500=;u10;' go() paper(0,5)=3 count(4)=0");
        test("both UNWILLING: LOST", "'p00;p00;o010500=;u10;u01;' go() paper(0,5)=3");
        test("UNWILLING no more: PAID", "'p00;p00;o010500=;u01;u01;' go() paper(0,5)=1");
        test("UNWILLING towards others: PAID", "'p00;p00;p00;o010500=;u02;u12;u20;u21;' go() paper(0,5)=1");
        test("its HOLDER of now is PAID", "'p00;p00;p00;o010500=;m002;' go() person(2,2)=5 person(1,2)=0");
        test("its HOLDER of now is UNWILLING", "'p00;p00;p00;o010500=;m002;u20;' go() paper(0,5)=3");
        test("its HOLDER of once was UNWILLING", "'p00;p00;p00;o010500=;m002;u10;' go() paper(0,5)=1");
        test("a FORGER's that is not FORGED: PAID", "'p50;p00;o010500=;' go() paper(0,5)=1 person(1,2)=5");
        test("worth 0, PAID in full", "'p39;p00;o010900=;' paper(0,6)=0 go() person(1,2)=9");
    }

    /** Promise 10. */
    private static void back() {
        test("nothing at first", "back()!-3 count(7)=0");
        test("one DAY", "go() count(7)=1 back()=0 count(7)=0 count(2)=0 back()!-3");
        test("all 8", "8*go() count(7)=8 back()=7 back()=6 back()=5 back()=4 back()=3 back()=2 back()=1 back()=0 back()!-3");
        test("7 of 7", "7*go() count(7)=7 7*back() count(2)=0 back()!-3");
        test("the 9th, oldest, no more", "9*go() count(7)=8 8*back() count(7)=0 count(2)=1 back()!-3");
        test("16 and 17: 8 of them", "16*go() count(7)=8 8*back() count(2)=8 back()!-3");
        test("17: 8 of them", "17*go() count(7)=8 8*back() count(2)=9 back()!-3");
        test("back and on again, many times", "8*go() 5*back() 5*go() 5*back() 5*go() 5*back() 6*go() count(2)=9 "
                + "count(7)=8 8*back() count(2)=1 back()!-3");
        test("refused, there is no more behind it", "go() back() back()!-3 back()!-3 go()=1 back()=0");
        test("made over", "'p00;p00;p00;o010505=;' over(0,2) back()=0 paper(0,1)=1 back()!-3");
        test("CANCELLED is OPEN again", "'p00;p00;o010505=;' over(0,0) back()=0 paper(0,1)=1 paper(0,5)=0 person(1,3)=5");
        test("PAID is OPEN again", "'p00;p00;o010500=;' go() back()=0 paper(0,5)=0 person(1,2)=0 go() person(1,2)=5");
        test("LOST is OPEN again", "'p00;p00;o010500x;' go() back()=0 paper(0,5)=0 person(1,2)=0 go() paper(0,5)=3");
        test("what fell due ahead of it stays", "'p00;p00;o010500=;o010701=;' 2*go() person(1,2)=12 back()=1 person(1,2)=5 "
                + "paper(0,5)=1 paper(1,5)=0");
        test("what was CANCELLED that DAY stays", "'p00;p00;o010500=;o010700=;' over(0,0) go() back()=0 paper(0,5)=2 "
                + "paper(1,5)=0 back()=0 paper(0,5)=0");
        test("the latest first", "'p00;p00;p00;o010505=;' over(0,2) go() over(0,1) back()=1 paper(0,1)=2 back()=0 "
                + "paper(0,1)=2 back()=0 paper(0,1)=1 back()!-3");
        test("9 made over", "'p00;p00;p00;o010505=;' over(0,2) over(0,1) over(0,2) over(0,1) over(0,2) over(0,1) "
                + "over(0,2) over(0,1) over(0,2) count(7)=8 8*back() paper(0,1)=2 back()!-3");
        test("16 papers on one DAY", "'p00;p00;' 16*owe(0,1,40,0,0) go() back()=0 count(3)=16 count(4)=0");
        test("from DAY 99", TO_DAY_90 + "'d8;' go()=99 go()!-6 count(7)=1 back()=98 back()!-3");
        test("refused ones can not be TAKEN BACK", "'p00;p00;o010505=;' over(0,1)!-3 over(1,1)!-1 count(7)=0 back()!-3");
    }

    private static void whatLeavesNone() {
        String past = "'p00;p00;p00;o010505=;' over(0,2) go() count(7)=2 ";
        test("unwilling() leaves none", past + "unwilling(0,1) count(7)=0 back()!-3");
        test("unwilling no more leaves none", "'p00;p00;u01;' go() unwilling(0,1)=0 count(7)=0 back()!-3");
        test("owe() leaves none", past + "owe(0,1,5,5,0) count(7)=0 back()!-3");
        test("a STREET leaves none", past + "'p00;' count(7)=0 back()!-3");
        test("DAYS and papers made over by a STREET are none", past + "'m001;d1;' count(7)=0 back()!-3");
        test("restore() leaves none", past + "image() go() restore() count(7)=0 back()!-3");
        test("a letter leaves all", past + "feed(112) count(7)=2 back()=0");
        test("a STREET with a FAULT of kind 1 leaves all", past + "'p'~-1001 count(7)=2 back()=0");
        test("a STREET with a FAULT of kind 2 leaves all", past + "'d1;p60;'~-2003 count(7)=2 back()=0");
        test("an empty STREET leaves all", past + "street()=-1000 count(7)=2 back()=0");
        test("image() leaves all", past + "image()=1 count(7)=2 back()=0");
        test("the ROW leaves all", past + "row(1) judge() row(2) clear() count(7)=2 back()=0");
        test("refused ones leave all", past + "unwilling(0,0)!-1 owe(0,0,1,1,0)!-1 owe(0,1,0,1,0)!-4 over(0,2)!-3 "
                + "restore()!-3 count(7)=2 back()=0");
        test("questions leave all", past + "payments() through(0) square(1) bestOver() stands() lots(20,1) count(7)=2");
        test("behind what leaves none, it begins anew", past + "unwilling(0,1) go()=2 count(7)=1 back()=1 back()!-3");
        test("8 full, none, 8 full", "'p00;p00;' 8*go() unwilling(0,1) count(7)=0 9*go() count(7)=8 8*back() count(2)=9");
    }

    /** Promise 3: numbers that a STATEMENT takes and does not take. */
    private static void streetNumbers() {
        for (int kind = 0; kind <= 9; kind++) {
            test("KIND " + kind, kind <= 5 ? "'p" + kind + "0;'=1 person(0,0)=" + kind : "'p" + kind + "0;'~-2000 count(0)=0");
        }
        for (int figure = 0; figure <= 9; figure++) {
            test("FIGURE " + figure, "'p0" + figure + ";'=1 person(0,1)=" + figure);
        }
        String two = "'p00;p00;' ";
        test("u: both there", two + "'u01;'=1 person(0,4)=2 'u10;'=1 person(1,4)=1");
        test("u: told again, not", two + "'u01;u01;'=2 person(0,4)=0");
        test("u: one twice", two + "'u00;'~-2000 'u11;'~-2000");
        test("u: no such one", two + "'u02;'~-2000 'u20;'~-2000 'u22;'~-2000 'u90;'~-2000 'u09;'~-2000");
        test("u: nobody at all", "'u01;'~-2000 'u00;'~-2000");
        test("u: 5 and 6 of seven", SEVEN + "'u56;u65;'=2 person(5,4)=64 person(6,4)=32 'u67;'~-2000 'u76;'~-2000");
        test("o: QUARTERS 01", two + "'o010105=;'=1 paper(0,2)=1");
        test("o: QUARTERS 00", two + "'o010005=;'~-2000");
        test("o: QUARTERS 40", two + "'o014005=;'=1 paper(0,2)=40");
        test("o: QUARTERS 41", two + "'o014105=;'~-2000 'o015005=;'~-2000 'o019905=;'~-2000");
        test("o: QUARTERS 09 and 10", two + "'o010905=;o011005=;'=2 paper(0,2)=9 paper(1,2)=10");
        test("o: DUE 00", two + "'o010500=;'=1 paper(0,3)=0");
        test("o: DUE 98", two + "'o010598=;'=1 paper(0,3)=98");
        test("o: DUE 99", two + "'o010599=;'~-2000");
        test("o: DUE ahead of DAY", two + "'d5;o010504=;'=2 paper(0,3)=4");
        test("o: = is not FORGED, x is", two + "'o010505=;o010505x;'=2 paper(0,4)=0 paper(1,4)=1");
        test("o: one twice", two + "'o000505=;'~-2000 'o110505=;'~-2000");
        test("o: no such one", two + "'o020505=;'~-2000 'o200505=;'~-2000 'o090505=;'~-2000 'o900505=;'~-2000");
        test("o: 5 and 6 of seven", SEVEN + "'o560105=;o650105=;'=2 'o670105=;'~-2000 'o760105=;'~-2000");
        test("o: several wrong numbers", two + "'o224199=;'~-2000");
        String paper = "'p00;p00;p00;o010505=;' ";
        test("m: to a third one", paper + "'m002;'=1 paper(0,1)=2");
        test("m: to its DEBTOR", paper + "'m000;'=1 paper(0,5)=2 paper(0,1)=0");
        test("m: to its HOLDER", paper + "'m001;'~-2000");
        test("m: no such paper", paper + "'m012;'~-2000 'm102;'~-2000 'm992;'~-2000");
        test("m: no such one", paper + "'m003;'~-2000 'm009;'~-2000");
        test("m: UNWILLING", paper + "unwilling(2,0) 'm002;'~-2000 unwilling(2,0) 'm002;'=1");
        test("m: not OPEN", paper + "over(0,0) 'm002;'~-2000 'm000;'~-2000");
        test("m: paper 15", two + "16*owe(0,1,1,5,0) 'm150;'=1 paper(15,5)=2 'm160;'~-2000");
        test("m: paper 09 and 10", two + "11*owe(0,1,1,5,0) 'm090;m100;'=2 paper(9,5)=2 paper(10,5)=2 'm110;'~-2000");
        for (int days = 0; days <= 9; days++) {
            test("d" + days, "'d" + days + ";'=1 count(2)=" + days);
            test("d" + days + " to DAY 99", TO_DAY_90 + "'d" + (9 - days) + ";d" + days + ";'=2 count(2)=99");
            if (days > 0) {
                test("d" + days + " to DAY 100", TO_DAY_90 + "'d" + (9 - days) + ";d1;' 'd" + days + ";'~-2000 count(2)="
                        + (100 - days));
            }
        }
        test("d: papers fall due on each DAY", two + "'o010500=;o010602=;o010703=;' 'd3;' person(1,2)=11 paper(2,5)=0");
    }

    /** Promise 3: how many letters, STATEMENTS, PEOPLE, papers and DAYS there may be. */
    private static void streetRoom() {
        String nines = "d9;d9;d9;d9;d9;d9;d9;d9;d9;d9;";
        test("no STATEMENT", "''~-1000 street()=-1000 count(5)=0");
        test("one STATEMENT", "'d0;'=1");
        test("32 STATEMENTS in 96 letters", "'" + "d0;".repeat(32) + "'=32");
        test("24 STATEMENTS in 96 letters", "'p00;p00;" + "u01;".repeat(22) + "'=24 person(0,4)=0");
        test("96 letters, the last lacks", "'" + "d0;".repeat(31) + "p00'~-1096");
        test("96 letters, the last does not fit", "'" + "d0;".repeat(31) + "d00'~-1095");
        test("95 letters", "'" + "d0;".repeat(31) + "d1'~-1095");
        test("96 letters, the last STATEMENT is wrong", "'p00;p00;" + "u01;".repeat(21) + "u02;'~-2092");
        test("7 in one STREET", "'p00;p00;p00;p00;p00;p00;p00;'=7 count(0)=7");
        test("8 in one STREET", "'p00;p00;p00;p00;p00;p00;p00;p00;'~-2028 count(0)=0");
        test("the eighth in a later STREET", SEVEN + "'p00;'~-2000 'd1;p00;'~-2003 count(0)=7 count(2)=0");
        test("the 16th paper", "'p00;p00;' 15*owe(0,1,1,5,0) 'o010105=;'=1 count(1)=16");
        test("the 17th paper", "'p00;p00;' 16*owe(0,1,1,5,0) 'o010105=;'~-2000 count(1)=16");
        test("the 16th and the 17th in one STREET", "'p00;p00;' 15*owe(0,1,1,5,0) 'o010105=;o010105=;'~-2009 count(1)=15");
        test("ten papers in one STREET", "'p00;p00;' '" + "o010105=;".repeat(10) + "'=10 count(1)=10");
        test("to DAY 99", "'" + nines + "d9;'=11 count(2)=99");
        test("beyond DAY 99", "'" + nines + "d9;d1;'~-2033 count(2)=0");
        test("far beyond DAY 99", "'" + nines + "d8;d9;'~-2033 count(2)=0");
        test("d0 on DAY 99", "'" + nines + "d9;d0;'=12 count(2)=99 'd0;'=1");
        test("on DAY 99 all else comes", "'" + nines + "d9;p00;p00;o010198=;u01;m000;'=16 count(2)=99");
    }

    /** Promise 3: which FAULT is told, and what comes with it. */
    private static void streetOrder() {
        String two = "'p00;p00;' ";
        test("by what is ahead of it in the text", "'p00;p00;u01;o010105=;m000;'=5");
        test("not by what is behind it in the text", "'u01;p00;p00;'~-2000 'p00;u01;p00;'~-2004 'p00;p00;m000;o010105=;'~-2008");
        test("m by an u ahead of it", "'p00;p00;p00;o010105=;u20;m002;'~-2025 'p00;p00;p00;o010105=;u20;u20;m002;'=7");
        test("m by an u behind it", "'p00;p00;p00;o010105=;m002;u20;'=6");
        test("m by an m ahead of it", "'p00;p00;p00;o010105=;m002;m002;'~-2026 'p00;p00;p00;o010105=;m002;m001;'=6");
        test("m by DAYS ahead of it", "'p00;p00;o010101=;d1;m000;'=5 paper(0,5)=2");
        test("m by too many DAYS ahead of it", "'p00;p00;o010101=;d2;m000;'~-2020 count(2)=0");
        test("the first of two wrong ones", two + "'u02;u20;'~-2000 'u01;u02;p60;'~-2004");
        test("kind 1 is told ahead of kind 2", two + "'u02;x'~-1004 'p60;p0'~-1006 'u00;u0;'~-1006");
        test("with a FAULT of kind 2 nothing comes", two + "'p11;u01;o010100=;d1;m990;'~-2020");
        test("with a FAULT of kind 1 nothing comes", two + "'p11;u01;o010100=;d1;m99'~-1023");
        test("the letters are no more behind a STREET", "'p00;' count(5)=0 feed(112)=1");
        test("the letters are no more behind a FAULT of kind 1", "'p0'~-1002 count(5)=0 feed(112)=1");
        test("the letters are no more behind a FAULT of kind 2", "'p60;'~-2000 count(5)=0 feed(112)=1");
        test("a FAULT is not counted", "'p60;'~-2000 'x'~-1000 ''~-1000 count(11)=0 count(12)=0 count(13)=0 count(14)=0 "
                + "count(15)=0 count(16)=0");
        test("a long text leaves nothing for a shorter one", "'p00;p00;u01'~-1011 'p1'~-1002 'p12;'=1 count(0)=1");
    }

    private static final Pattern STREET = Pattern.compile("(p\\d\\d;|u\\d\\d;|o\\d{6}[=x];|m\\d{3};|d\\d;)+");

    /** The place of the first letter behind which nothing can follow, as the library's patterns see it; else -1. */
    private static int unfit(String text) {
        for (int n = 1; n <= text.length(); n++) {
            Matcher m = STREET.matcher(text.substring(0, n));
            if (!m.matches() && !m.hitEnd()) {
                return n - 1;
            }
        }
        return STREET.matcher(text).matches() ? -1 : text.length();
    }

    /** A text behind two PEOPLE and a paper; a FAULT of kind 1 must be as due, and without one there is none. */
    private static void fitting(String text) {
        KissesOwed x = new KissesOwed();
        for (char letter : ("p00;p00;o010505=;" + text).toCharArray()) {
            x.feed(letter);
        }
        int answer = x.street();
        int place = unfit("p00;p00;o010505=;" + text);
        if (place >= 0) {
            Told.due("FAULT of kind 1 of '" + text + "'", answer, -1000 - place);
        } else if (answer > -2000 && answer < 1) {
            Told.wrong("'" + text + "' has no FAULT of kind 1, but answered " + answer);
        }
        Told.due("letters behind '" + text + "'", x.count(5), 0);
        Told.due("PEOPLE behind '" + text + "'", x.count(0) == 0 ? 1 : 0, answer < 0 ? 1 : 0);
    }

    /** Promise 3: each letter from 0 to 255 at each place, texts that end anywhere, and letters that lack. */
    private static void everyLetterAtEveryPlace() {
        for (String form : new String[] {"p13;", "u01;", "o011234=;", "o109876x;", "m001;", "d5;", "p00;d1;u10;"}) {
            for (int i = 0; i < form.length(); i++) {
                for (char letter = 0; letter <= 255; letter++) {
                    fitting(form.substring(0, i) + letter + form.substring(i + 1));
                    fitting(form.substring(0, i) + letter + form.substring(i));
                }
                fitting(form.substring(0, i));
                fitting(form.substring(0, i) + form.substring(i + 1));
            }
            for (char letter = 0; letter <= 255; letter++) {
                fitting(form + letter);
            }
        }
    }

    /** The 512th call is answered as any other. */
    private static void fullOfCalls() {
        KissesOwed x = new KissesOwed();
        for (int i = 1; i < 512; i++) {
            x.feed(-1);
        }
        Told.due("the 512th call", x.count(14), 511);
        x = new KissesOwed();
        for (int i = 1; i < 512; i++) {
            x.go();
        }
        Told.due("DAYS that did not go by", x.count(16), 511 - 99);
    }
}
