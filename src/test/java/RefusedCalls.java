/**
 * Every refusal of every call, behind runs that leave something of all that there is: the call answers its number, it
 * is counted, and nothing else has changed (letters, the ROW, THE IMAGE and what can be TAKEN BACK neither).
 */
public final class RefusedCalls {
    /** Six PEOPLE; papers OPEN, PAID, LOST, CANCELLED, OPEN, OPEN; DAY 1; to be TAKEN BACK a DAY and two made over. */
    private static final String SOME = "'p03;p15;p20;p34;p49;p52;u03;' 'o012030=;o121000=;o230500x;o340840=;o450909=;o501060x;' image() "
            + "go() over(3,3) over(0,2) feed(100) feed(49) feed(59) row(9) row(0) row(0) row(0) row(9) ";
    /** Seven PEOPLE, 16 papers that are OPEN and nine twos, DAY 99, 96 letters, 12 in the ROW, 8 to be TAKEN BACK. */
    private static final String FULL = "'p10;p10;p10;p10;p10;p10;p10;d9;d9;d9;d9;d9;d9;d9;d9;d9;d9;' 8*owe(0,1,5,3,0) "
            + "owe(0,2,5,3,0) owe(0,3,5,3,0) owe(0,4,5,3,0) owe(0,5,5,3,0) owe(0,6,5,3,0) owe(1,2,5,3,0) owe(1,3,5,3,0) "
            + "owe(2,3,5,3,0) image() 9*go() 32*feed(100) 32*feed(48) 32*feed(59) 12*row(5) ";
    /** Two PEOPLE, one paper; no IMAGE, nothing to be TAKEN BACK. */
    private static final String FEW = "'p00;p00;o010505=;d1;' feed(100) row(5) ";

    private static final String OF_SOME = "feed(-1)!-4 feed(256)!-6 person(6,0)!-1 person(-1,0)!-1 person(0,-1)!-2 person(0,5)!-2 "
            + "paper(6,0)!-1 paper(-1,0)!-1 paper(0,-1)!-2 paper(0,7)!-2 unwilling(6,0)!-1 unwilling(0,6)!-1 unwilling(-1,0)!-1 "
            + "unwilling(0,-1)!-1 unwilling(3,3)!-1 owe(6,0,5,5,0)!-1 owe(0,6,5,5,0)!-1 owe(-1,0,5,5,0)!-1 owe(0,-1,5,5,0)!-1 "
            + "owe(2,2,5,5,0)!-1 owe(0,1,5,5,-1)!-2 owe(0,1,5,5,2)!-2 owe(0,1,0,5,0)!-4 owe(0,1,5,-1,0)!-4 owe(0,1,41,5,0)!-6 "
            + "owe(0,1,5,99,0)!-6 over(6,0)!-1 over(-1,0)!-1 over(0,6)!-1 over(0,-1)!-1 over(0,2)!-3 over(1,3)!-3 over(2,4)!-3 "
            + "over(3,5)!-3 over(4,5)!-3 owes(6,0)!-1 owes(0,6)!-1 owes(-1,0)!-1 owes(0,-1)!-1 owes(1,1)!-1 net(6)!-1 net(-1)!-1 "
            + "through(-1)!-2 through(2)!-2 square(-1)!-2 square(2)!-2 soonest(-1)!-4 gain(6,0)!-1 gain(0,6)!-1 gain(-1,0)!-1 "
            + "gain(0,-1)!-1 gain(1,1)!-1 bestBuy(6)!-1 bestBuy(-1)!-1 swings(6,0)!-1 swings(0,6)!-1 swings(-1,0)!-1 swings(0,-1)!-1 "
            + "boss(6)!-1 boss(-1)!-1 looks(-1)!-4 looks(100)!-6 chain(6,0)!-1 chain(0,6)!-1 chain(-1,0)!-1 chain(0,-1)!-1 "
            + "comesIn(6)!-1 comesIn(-1)!-1 fits()!-3 deaths(6,2,0)!-1 deaths(-1,2,0)!-1 deaths(4,1,0)!-4 deaths(4,21,0)!-6 "
            + "deaths(4,2,-1)!-2 deaths(4,2,2)!-2 deaths(1,2,0)!-3 deaths(2,2,0)!-3 deaths(3,2,0)!-3 deaths(0,2,0)!-3 hold(6,1)!-1 "
            + "hold(-1,1)!-1 hold(0,-1)!-4 hold(0,4)!-6 ring(-2)!-4 rich(6,5)!-1 rich(-1,5)!-1 rich(0,-1)!-4 rich(0,1000)!-6 "
            + "paidBy(0)!-4 paidBy(99)!-6 trade(6,0)!-1 trade(0,6)!-1 trade(-1,0)!-1 trade(0,-1)!-1 trade(1,1)!-1 heirs(6)!-1 "
            + "heirs(-1)!-1 relieved(6,0)!-1 relieved(-1,0)!-1 relieved(0,-1)!-2 relieved(0,2)!-2 power(6,0,0)!-1 power(0,6,0)!-1 "
            + "power(-1,0,0)!-1 power(0,-1,0)!-1 power(0,1,-1)!-2 power(0,1,2)!-2 heaviest(-1)!-2 heaviest(2)!-2 row(-1)!-4 "
            + "row(100)!-6 lots(0,1)!-4 lots(21,1)!-6";
    private static final String OF_FULL = "feed(0)!-6 feed(-1)!-4 feed(256)!-6 person(7,0)!-1 paper(16,0)!-1 unwilling(7,6)!-1 "
            + "unwilling(6,7)!-1 owe(0,1,5,5,0)!-6 owe(7,6,5,5,0)!-1 over(16,0)!-1 over(15,7)!-1 over(0,1)!-3 go()!-6 owes(7,0)!-1 net(7)!-1 "
            + "square(1)!-3 soonest(0)!-3 soonest(-1)!-4 gain(7,0)!-1 deaths(0,2,0)!-3 fits()!-3 paidBy(98)!-4 paidBy(99)!-6 "
            + "rounds()!-3 heaviest(0)!-3 heaviest(1)!-3 heaviest(2)!-2 row(5)!-6 row(-1)!-4 row(100)!-6";
    private static final String OF_FEW = "back()!-3 restore()!-3 fits()!-3 over(0,1)!-3 go()=2 owe(0,0,1,1,0)!-1 trade(0,2)!-1";

    /** What answers and is no refusal. */
    private static final String QUESTIONS = "person(0,0) person(0,1) person(0,2) person(0,3) person(0,4) paper(0,0) paper(0,1) paper(0,2) "
            + "paper(0,3) paper(0,4) paper(0,5) paper(0,6) owes(0,1) net(0) payments() through(0) through(1) nobodyWill() square(0) "
            + "busiest() gain(0,1) bestBuy(0) swings(0,1) boss(0) corner() looks(9) chain(0,1) inIt() comesIn(0) hold(0,0) hold(0,1) "
            + "hold(0,3) ring(-1) ring(0) ring(9) round() stands() rich(1,0) rich(1,999) last() trade(0,1) heirs(0) stuck() cancels() "
            + "bestOver() relieved(0,0) relieved(0,1) power(0,1,0) power(0,1,1) atOnce() lots(1,1) lots(20,-1) count(0) count(1) "
            + "count(2) count(3) count(4) count(5) count(6) count(7) count(8) count(11) count(12) count(13) count(14) count(15) "
            + "count(16) count(17) count(-1)";
    private static final String MORE_OF_SOME = "square(1) soonest(0) soonest(99) rounds() heaviest(0) heaviest(1) deaths(4,2,0) paidBy(1) "
            + "paidBy(98)";

    public static void main(String[] args) {
        Told.test("what SOME is", SOME + "count(0)=6 count(1)=6 count(2)=1 count(3)=3 count(4)=10 count(5)=3 count(6)=5 count(7)=3 "
                + "paper(0,5)=0 paper(1,5)=1 paper(2,5)=3 paper(3,5)=2");
        Told.test("what SOME's letters, ROW and IMAGE are", SOME + "judge()=-9 street()=1 count(2)=2 restore()=0 count(3)=6");
        Told.test("what FULL is", FULL + "count(0)=7 count(1)=16 count(2)=99 count(3)=16 count(5)=96 count(6)=12 count(7)=8");
        Told.test("what FULL's ROW is", FULL + "judge()=-9");
        Told.test("what FEW is", FEW + "count(5)=1 count(6)=1 count(7)=0");
        each("SOME", SOME, OF_SOME);
        each("FULL", FULL, OF_FULL);
        each("FEW", FEW, OF_FEW);
        each("SOME", SOME, QUESTIONS);
        each("SOME", SOME, MORE_OF_SOME);
        each("FULL", FULL, QUESTIONS);
        allTogether();
        Told.end();
    }

    private static void each(String name, String run, String calls) {
        for (String call : calls.split(" ")) {
            Told.test("behind " + name, run + call);
        }
    }

    /** Many refused calls one behind the other add up, and still nothing has changed. */
    private static void allTogether() {
        String[] calls = OF_SOME.split(" ");
        for (int i = 0; i < calls.length; i += 40) {
            StringBuilder run = new StringBuilder(SOME);
            for (int j = i; j < calls.length && j < i + 40; j++) {
                run.append(calls[j]).append(' ');
            }
            Told.test("one behind the other", run.toString());
        }
    }
}
