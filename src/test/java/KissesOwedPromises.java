/** Each promise of the document by hand: ordinary inputs, the edges that it names, and wrong inputs. */
public final class KissesOwedPromises {
    private static final long REFUSED = 4000000000000000000L;
    private static int wrong = 0;

    private static void due(String call, long got, long want) {
        if (got != want) {
            wrong++;
            System.out.println(call + " answered " + got + ", due is " + want);
        }
    }

    /** Feeds a text and lets it be a STREET. */
    private static int street(KissesOwed x, String text) {
        for (int i = 0; i < text.length(); i++) {
            x.feed(text.charAt(i));
        }
        return x.street();
    }

    /** A new object behind a STREET, or several with spaces between. */
    private static KissesOwed after(String text) {
        KissesOwed x = new KissesOwed();
        for (String part : text.split(" ")) {
            if (street(x, part) <= 0) {
                wrong++;
                System.out.println("no STREET: " + part);
            }
        }
        return x;
    }

    /** Some plain PEOPLE. */
    private static KissesOwed people(int n) {
        return after("p00;".repeat(n));
    }

    public static void main(String[] args) {
        comings();
        faults();
        askings();
        worths();
        papers();
        daysAndBack();
        debts();
        payments();
        through();
        square();
        buying();
        shares();
        looksAndChains();
        fits();
        deathsAndHold();
        rings();
        stands();
        duesAndTrade();
        stuckAndCancels();
        bestOverAndRelieved();
        power();
        roundsAndHeaviest();
        rows();
        lots();
        images();
        counts();
        System.out.println(wrong == 0 ? "all promises are kept" : wrong + " answers are not as due");
        if (wrong != 0) {
            System.exit(1);
        }
    }

    /** Promises 1 to 3. */
    private static void comings() {
        KissesOwed x = new KissesOwed();
        for (int what = 0; what < 8; what++) {
            due("new: count(" + what + ")", x.count(what), 0);
        }
        due("new: person(0,0)", x.person(0, 0), -1);
        due("new: paper(0,0)", x.paper(0, 0), -1);
        due("feed(-1)", x.feed(-1), -4);
        due("feed(256)", x.feed(256), -6);
        due("feed(0)", x.feed(0), 1);
        due("feed(255)", x.feed(255), 2);
        due("letters", x.count(5), 2);
        for (int i = 3; i <= 96; i++) {
            due("feed " + i, x.feed('p'), i);
        }
        due("feed(97th)", x.feed('p'), -6);
        due("feed(-1) with 96", x.feed(-1), -4);
        due("refused -4", x.count(14), 2);
        due("refused -6", x.count(16), 2);
        due("street of 0", x.street(), -1000);
        due("letters behind it", x.count(5), 0);
        due("people", street(x, "p00;p19;p28;p37;"), 4);
        due("count(0)", x.count(0), 4);
        due("person(1,0)", x.person(1, 0), 1);
        due("person(1,1)", x.person(1, 1), 9);
        due("more", street(x, "u01;u10;u01;o231205=;o234098x;m000;d3;d0;"), 8);
        due("u01 twice", x.person(0, 4), 0);
        due("u10", x.person(1, 4), 1);
        due("m000", x.paper(0, 1), 0);
        due("forged", x.paper(1, 4), 1);
        due("quarters", x.paper(1, 2), 40);
        due("due", x.paper(1, 3), 98);
        due("d3;d0", x.count(2), 3);
        StringBuilder full = new StringBuilder();
        for (int i = 0; i < 24; i++) {
            full.append("u23;");
        }
        due("96 letters", street(x, full.toString()), 24);
    }

    /** Promise 3: each FAULT, and that nothing comes with one. */
    private static void faults() {
        String[] ahead = {"", "p", "p0", "p00", "q00;", "p:0;", "p0/;", "p00,", "p00;x", "p00;p", "p00;;", "P00;",
            "u0", "u01", "ux1;", "o0", "o0110", "o01100", "o011005", "o0110050;", "o011005", "o011005=", "o011005==",
            "o011005X;", "m", "m0", "m00", "m000", "m0a0;", "d", "d1", "d10;", "d;", "p00; ", " p00;"};
        int[] place = {0, 1, 2, 3, 0, 1, 2, 3, 4, 5, 4, 0,
            2, 3, 1, 2, 5, 6, 7, 7, 7, 8, 8,
            7, 1, 2, 3, 4, 2, 1, 2, 2, 1, 4, 0};
        for (int i = 0; i < ahead.length; i++) {
            KissesOwed x = people(1);
            due("FAULT 1 of '" + ahead[i] + "'", street(x, ahead[i]), -1000 - place[i]);
            due("no letters then", x.count(5), 0);
            due("nobody came", x.count(0), 1);
            due("nothing counted", x.count(11) + x.count(12) + x.count(13) + x.count(14) + x.count(16), 0);
        }
        String[] sense = {"p60;", "p90;", "u00;", "u02;", "u20;", "o000101=;", "o020101=;", "o200101=;", "o010001=;",
            "o014101=;", "o010199=;", "m000;", "m010;", "o010101=;m001;", "o010101=;m002;", "u10;o010101=;o120101=;",
            "o010101=;m000;m001;", "p00;p00;p00;p00;p00;p00;", "d9;d9;d9;d9;d9;d9;d9;d9;d9;d9;d9;d1;", "u01;m000;",
            "d1;o010100=;m000;m001;", "o010100=;d1;m000;", "p00;u10;o010101=;m002;u20;m001;"};
        int[] start = {0, 0, 0, 0, 0, 0, 0, 0, 0,
            0, 0, 0, 0, 9, 9, 13,
            14, 20, -1, 4,
            17, 12, -1};
        for (int i = 0; i < sense.length; i++) {
            KissesOwed x = people(2);
            if (start[i] >= 0) {
                due("FAULT 2 of '" + sense[i] + "'", street(x, sense[i]), -2000 - start[i]);
                due("nothing came", 100 * x.count(0) + 10 * x.count(1) + x.count(2) + x.person(0, 4), 200);
            }
        }
        KissesOwed x = people(2);
        due("eleven nines", street(x, "d9;d9;d9;d9;d9;d9;d9;d9;d9;d9;d9;"), 11);
        due("DAY 99", x.count(2), 99);
        due("d0 on DAY 99", street(x, "d0;"), 1);
        due("d1 on DAY 99", street(x, "d1;"), -2000);
        due("kind 1 ahead of kind 2", street(x, "p99;p"), -1005);
        // of the unwilling one nobody's paper can be made over, but his own to him
        x = people(3);
        due("unwilling m", street(x, "u20;o010101=;m002;"), -2013);
        due("willing m", street(x, "o010101=;m002;"), 2);
        x = after("p00;p00; " + "o010101=;".repeat(8) + " " + "o010101=;".repeat(8));
        due("17th paper", street(x, "d1;o010101=;"), -2003);
        due("eighth one", street(people(7), "p00;"), -2000);
    }

    /** Promises 4 to 6. */
    private static void askings() {
        KissesOwed x = after("p59;p10;p00;u01;u02;u21;o120705x;");
        due("KIND", x.person(0, 0), 5);
        due("FIGURE", x.person(0, 1), 9);
        due("KISSED", x.person(0, 2), 0);
        due("PURSE", x.person(2, 3), 7);
        due("PURSE of the DEBTOR", x.person(1, 3), 0);
        due("UNWILLING", x.person(0, 4), 6);
        due("UNWILLING", x.person(2, 4), 2);
        due("what -1", x.person(0, -1), -2);
        due("what 5", x.person(0, 5), -2);
        due("nobody, what 5", x.person(3, 5), -1);
        due("nobody", x.person(-1, 0), -1);
        int[] told = {1, 2, 7, 5, 1, 0, 7};
        for (int what = 0; what < 7; what++) {
            due("paper(0," + what + ")", x.paper(0, what), told[what]);
        }
        due("what 7", x.paper(0, 7), -2);
        due("what -1", x.paper(0, -1), -2);
        due("no paper, what 7", x.paper(1, 7), -1);
        due("no paper", x.paper(-1, 0), -1);
        due("unwilling(1,2)", x.unwilling(1, 2), 1);
        due("bits", x.person(1, 4), 4);
        due("not the other way", x.person(2, 4), 2);
        due("unwilling(1,2) again", x.unwilling(1, 2), 0);
        due("bits", x.person(1, 4), 0);
        due("one twice", x.unwilling(1, 1), -1);
        due("no such one", x.unwilling(3, 1), -1);
        due("no such one", x.unwilling(1, 3), -1);
        due("no such one", x.unwilling(-1, 1), -1);
    }

    /** WORTH by KIND and DAY. */
    private static void worths() {
        // 37 QUARTERS, 13 DAYS off: 26 hundredths are 9.62, cut 9
        int[] kinds = {0, 1, 2, 3, 4, 5};
        int[] worth = {28, 37, 14, 25, 34, 14};
        for (int kind : kinds) {
            KissesOwed x = after("p" + kind + "3;p00;o013713=;");
            due("WORTH of KIND " + kind, x.paper(0, 6), worth[kind]);
            due("PURSE", x.person(1, 3), worth[kind]);
            x = after("p" + kind + "3;p00;o013713x;");
            due("FORGED WORTH of KIND " + kind, x.paper(0, 6), kind == 5 ? 0 : worth[kind]);
        }
        int[] far = {0, 37, 0, 0, 34, 0};
        int[] past = {37, 37, 18, 34, 34, 18};
        for (int kind : kinds) {
            KissesOwed x = after("p" + kind + "3;p00;o013750=;");
            due("WORTH 50 DAYS off of KIND " + kind, x.paper(0, 6), far[kind]);
            x = after("p" + kind + "3;p00;o013798=;");
            due("WORTH 98 DAYS off of KIND " + kind, x.paper(0, 6), far[kind]);
            x = after("p" + kind + "3;p00;d9;o013709=;");
            due("WORTH on its DAY of KIND " + kind, x.paper(0, 6), past[kind]);
            x = after("p" + kind + "3;p00;d9;o013708=;");
            due("WORTH behind its DAY of KIND " + kind, x.paper(0, 6), past[kind]);
        }
        due("SHY not below 0", after("p39;p00;o010500=;").paper(0, 6), 0);
        due("49 DAYS off", after("p00;p00;o014049=;").paper(0, 6), 1);
        due("WIDOW of 9", after("p40;p00;o010900=;").paper(0, 6), 9);
        due("WIDOW of 20", after("p40;p00;o012000=;").paper(0, 6), 18);
        KissesOwed x = after("p10;p00;o010500=;o010500x;o010501=;m020;");
        x.go();
        due("PAID has no WORTH", x.paper(0, 6), 0);
        due("LOST has no WORTH", x.paper(1, 6), 0);
        due("CANCELLED has no WORTH", x.paper(2, 6), 0);
    }

    /** Promises 7 and 8. */
    private static void papers() {
        KissesOwed x = people(3);
        due("owe", x.owe(0, 1, 1, 0, 0), 0);
        due("owe", x.owe(2, 1, 40, 98, 1), 1);
        due("one twice", x.owe(1, 1, 0, 0, 2), -1);
        due("no DEBTOR", x.owe(3, 1, 1, 0, 0), -1);
        due("no HOLDER", x.owe(1, -1, 1, 0, 0), -1);
        due("forged 2", x.owe(0, 1, 0, 0, 2), -2);
        due("forged -1", x.owe(0, 1, 41, 0, -1), -2);
        due("0 quarters", x.owe(0, 1, 0, 99, 0), -4);
        due("due -1", x.owe(0, 1, 41, -1, 0), -4);
        due("41 quarters", x.owe(0, 1, 41, 0, 0), -6);
        due("due 99", x.owe(0, 1, 1, 99, 0), -6);
        for (int i = 2; i < 16; i++) {
            due("owe", x.owe(0, 1, 2, 3, 0), i);
        }
        due("no room", x.owe(0, 1, 1, 0, 0), -6);
        due("0 quarters, no room", x.owe(0, 1, 0, 0, 0), -4);
        due("count(1)", x.count(1), 16);
        x = after("p00;p00;p00;p00;u30;o010505=;o010505=;");
        due("over", x.over(0, 2), 0);
        due("HOLDER", x.paper(0, 1), 2);
        due("to its HOLDER", x.over(0, 2), -3);
        due("to the unwilling", x.over(0, 3), -3);
        due("no paper", x.over(2, 2), -1);
        due("no paper", x.over(-1, 2), -1);
        due("no one", x.over(0, 4), -1);
        due("to its DEBTOR", x.over(0, 0), 2);
        due("CANCELLED", x.paper(0, 5), 2);
        due("its HOLDER then", x.paper(0, 1), 0);
        due("not OPEN", x.over(0, 1), -3);
        due("DEBTOR unwilling towards the taker matters not", x.unwilling(0, 2) + x.over(1, 2), 1);
    }

    /** Promises 9 and 10. */
    private static void daysAndBack() {
        KissesOwed x = after("p00;p00;p00;u12;o010500=;o100700x;o120900=;o210800=;o020301=;o201100=;");
        due("go", x.go(), 1);
        int[] states = {1, 3, 3, 3, 0, 1};
        for (int p = 0; p < 6; p++) {
            due("state of " + p, x.paper(p, 5), states[p]);
        }
        due("KISSED of 0", x.person(0, 2), 11);
        due("KISSED of 1", x.person(1, 2), 5);
        due("KISSED of 2", x.person(2, 2), 0);
        due("go", x.go(), 2);
        due("KISSED of 2", x.person(2, 2), 3);
        due("back", x.back(), 1);
        due("KISSED of 2", x.person(2, 2), 0);
        due("OPEN again", x.paper(4, 5), 0);
        due("back", x.back(), 0);
        for (int p = 0; p < 6; p++) {
            due("state of " + p, x.paper(p, 5), 0);
        }
        due("all KISSED", x.count(4), 0);
        due("back", x.back(), -3);
        x = after("p00;p00;p00;o010510=;");
        due("over", x.over(0, 2), 0);
        due("go", x.go(), 1);
        due("over", x.over(0, 0), 2);
        due("count(7)", x.count(7), 3);
        due("back", x.back(), 1);
        due("OPEN", x.paper(0, 5), 0);
        due("HOLDER", x.paper(0, 1), 2);
        due("back", x.back(), 0);
        due("HOLDER", x.paper(0, 1), 2);
        due("back", x.back(), 0);
        due("HOLDER", x.paper(0, 1), 1);
        due("back", x.back(), -3);
        for (int i = 0; i < 11; i++) {
            x.go();
        }
        due("8 at most", x.count(7), 8);
        for (int i = 10; i >= 3; i--) {
            due("back", x.back(), i);
        }
        due("older ones no more", x.back(), -3);
        due("DAY", x.count(2), 3);
        whatLeavesNone();
        x = after("p00;p00;d9;d9;d9;d9;d9;d9;d9;d9;d9;d9;d8; o010598=;");
        due("go", x.go(), 99);
        due("paid", x.paper(0, 5), 1);
        due("go on 99", x.go(), -6);
        due("kept", x.count(7), 1);
        due("back", x.back(), 98);
    }

    /** Promise 10: what else changes leaves nothing to be TAKEN BACK; what does not, leaves it. */
    private static void whatLeavesNone() {
        KissesOwed x = people(2);
        x.go();
        x.feed('p');
        x.street();
        x.row(3);
        x.clear();
        x.unwilling(0, 0);
        x.owe(0, 1, 0, 0, 0);
        x.restore();
        x.image();
        due("asked and refused", x.count(7), 1);
        x.unwilling(0, 1);
        due("unwilling", x.count(7), 0);
        x.go();
        x.owe(0, 1, 1, 1, 0);
        due("owe", x.count(7), 0);
        x.go();
        street(x, "d1;");
        due("street", x.count(7), 0);
        x.go();
        x.restore();
        due("restore", x.count(7), 0);
    }

    /** Promises 11, 12 and 40. */
    private static void debts() {
        KissesOwed x = after("p00;p00;p00;o010505=;o010706x;o100300=;o121100=;o020209=;m040;");
        due("OWES", x.owes(0, 1), 12);
        due("OWES", x.owes(1, 0), 3);
        due("OWES", x.owes(1, 2), 11);
        due("CANCELLED is owed no more", x.owes(0, 2), 0);
        due("one twice", x.owes(0, 0), -1);
        due("nobody", x.owes(0, 3), -1);
        due("nobody", x.owes(-1, 0), -1);
        due("NET of 0", x.net(0), -9);
        due("NET of 1", x.net(1), -2);
        due("NET of 2", x.net(2), 11);
        due("NET of nobody", x.net(3), 1000000001);
        due("NET of nobody", x.net(-1), 1000000001);
        due("counted", x.count(11), 5);
        due("CANCELS", x.cancels(), 3);
        x.go();
        due("OWES behind the DAY", x.owes(1, 0), 0);
        due("NET behind it", x.net(0), -12);
        due("CANCELS behind it", x.cancels(), 0);
    }

    /** Promise 13. */
    private static void payments() {
        due("nobody", new KissesOwed().payments(), 0);
        due("three pairs", after("p00;p00;p00;p00;p00;p00;o010509=;o230709=;o450909=;").payments(), 3);
        due("one pays all", after("p00;p00;p00;p00;o010509=;o020609=;o030709=;").payments(), 3);
        due("a chain", after("p00;p00;p00;p00;o010509=;o120509=;o230509=;").payments(), 1);
        due("a ring", after("p00;p00;p00;o010509=;o120509=;o200509=;").payments(), 0);
        // -3 -5 8 by themselves and -4 -2 1 5 in two groups or one: 2 + 3
        due("groups", after("p00;p00;p00;p00;p00;p00;p00;o020309=;o120509=;o350109=;o360309=;o460209=;").payments(), 5);
        due("two groups of three", after("p00;p00;p00;p00;p00;p00;o020309=;o120509=;o350409=;o450209=;").payments(), 4);
        due("unwilling matters not", after("p00;p00;u01;o010509=;").payments(), 1);
    }

    /** Promise 14. */
    private static void through() {
        KissesOwed x = after("p00;p00;p00;p00;o010509=;o230709=;");
        due("all", x.through(0), 12);
        due("no cut", x.through(1), 0);
        // 0 and 1 apart from 2 and 3, who stay willing among themselves
        x = after("p00;p00;p00;p00;u02;u03;u12;u31;o020509=;o130709=;o010209=;");
        due("NETS -7 -5 5 7 apart", x.through(0), 0);
        due("who could be come to", x.through(1), 3);
        x = after("p00;p00;p00;p00;u01;u02;u03;o020509=;o130709=;o120209=;");
        due("0 alone", x.through(0), 9);
        due("CUT", x.through(1), 1);
        x = after("p00;p00;p00;u02;o020509=;");
        due("through 1", x.through(0), 5);
        x = after("p00;p00;p00;u02;u21;o020509=;");
        due("not through 1", x.through(0), 0);
        due("CUT with him who stands by", x.through(1), 3);
        due("what 2", x.through(2), -2);
        due("what -1", x.through(-1), -2);
    }

    /** Promises 15 to 18, 44 and 45. */
    private static void square() {
        KissesOwed x = after("p00;p00;p00;u12;o120503=;o010500=;o010502x;o210401=;");
        due("NOBODY WILL", x.nobodyWill(), 0);
        x.unwilling(1, 2);
        due("FORGED", x.nobodyWill(), 2);
        x.unwilling(2, 1);
        due("UNWILLING the other way", x.nobodyWill(), 0);
        x = after("p00;p00;d2;o010501x;o010502x;");
        due("DUE ahead of DAY", x.nobodyWill(), 1);
        x.go();
        due("LOST already", x.nobodyWill(), -9);
        x = after("p00;p00;p00;p00;o010309=;o100309=;o020809=;o200309=;o130909=;");
        // 01 2 minutes, 02 5, 13 9
        due("rising", x.square(0), 11);
        due("SOONEST", x.square(1), 11);
        due("BUSIEST", x.busiest(), 1);
        due("first", x.soonest(0), 1);
        due("second", x.soonest(1), 2);
        due("third", x.soonest(2), 13);
        due("no fourth", x.soonest(3), -9);
        due("below 0", x.soonest(-1), -4);
        due("what 2", x.square(2), -2);
        due("what -1", x.square(-1), -2);
        due("AT ONCE", x.atOnce(), 2);
        due("ROUNDS", x.rounds(), 2);
        // rising: 01 0-2, 12 2-12, 23 12-22, 34 22-32; sooner 01 with 23, then 12 with 34
        x = after("p00;p00;p00;p00;p00;o010209=;o121009=;o231009=;o341009=;");
        due("a path rising", x.square(0), 32);
        due("a path SOONEST", x.square(1), 20);
        due("its first ORDER begins", x.soonest(0), 1);
        due("then", x.soonest(1), 23);
        due("then", x.soonest(2), 12);
        due("then", x.soonest(3), 34);
        due("AT ONCE", x.atOnce(), 2);
        due("BUSIEST of two", x.busiest(), 2);
        x = after("p00;p00;p00;p00;p00;p00;p00; "
                + "o010109=;o020109=;o030109=;o040109=;o050109=;o060109=;o120109=; o130109=;");
        due("8 twos rising", x.square(0), 16 - 4);
        due("8 twos SOONEST", x.square(1), -3);
        due("8 twos, i below 0", x.soonest(-1), -4);
        due("8 twos", x.soonest(20), -3);
        due("8 twos, ROUNDS", x.rounds(), -3);
        due("8 twos, AT ONCE", x.atOnce(), 2);
        due("8 twos, what", x.square(3), -2);
        due("a star's rounds", after("p00;p00;p00;p00;p00;p00;p00;o010109=;o020109=;o030109=;o040109=;o050109=;o060109=;")
                .rounds(), 6);
        due("a triangle's rounds", after("p00;p00;p00;o010109=;o120109=;o020109=;").rounds(), 3);
        due("a square's rounds", after("p00;p00;p00;p00;o010109=;o120109=;o230109=;o300109=;").rounds(), 2);
        due("three pairs at once", after("p00;p00;p00;p00;p00;p00;p00;o010109=;o320109=;o650109=;o430109=;").atOnce(), 3);
        x = people(2);
        due("nothing owed", x.square(0) + x.square(1) + x.atOnce() + x.rounds(), 0);
        due("nothing owed", x.soonest(0), -9);
        due("nobody BUSIEST", x.busiest(), -9);
    }

    /** Promises 19 and 20. */
    private static void buying() {
        // of 0, 25 DAYS off: 20 is worth 10; forged 10 is worth 5
        KissesOwed x = after("p00;p00;p00;p20;p10;o012025=;o021025x;o310800=;o322000=;o400700=;u23;");
        due("GAIN of all that others hold", x.gain(3, 0), 5);
        due("GAIN but what one holds", x.gain(2, 0), 10);
        due("GAIN below 0", x.gain(1, 0), -5);
        due("GAIN by a SAILOR", x.gain(0, 3), 14);
        due("GAIN, UNWILLING", x.gain(2, 3), 0);
        due("DEBTOR unwilling matters not", x.unwilling(3, 0) + x.gain(0, 3), 15);
        due("one twice", x.gain(1, 1), 1000000001);
        due("nobody", x.gain(5, 1), 1000000001);
        due("nobody", x.gain(1, -1), 1000000001);
        due("BEST", x.bestBuy(0), 3);
        due("BEST of 2", x.bestBuy(2), 0);
        due("BEST of one who is UNWILLING", x.bestBuy(3), -9);
        due("BEST of nobody", x.bestBuy(5), -1);
        x = after("p20;p20;p00;o020700=;o120700=;");
        due("of several the least", x.bestBuy(2), -9);
        due("not himself", x.bestBuy(0), 1);
        x = after("p20;p20;p00;p00;o020700=;o120700=;");
        due("of several the least", x.bestBuy(3), 0);
    }

    /** Promises 21 to 23. */
    private static void shares() {
        KissesOwed x = after("p00;p00;p00;p00;p00;o010309=;o020209=;o030209=;o010109x;o120509=;o130509=;");
        // of 0: 1 has 4, 2 and 3 have 2 each; half is 4
        due("SWINGS of 1", x.swings(0, 1), 3);
        due("SWINGS of 2", x.swings(0, 2), 1);
        due("SWINGS of one who holds none", x.swings(0, 4), 0);
        due("SWINGS of himself", x.swings(0, 0), 0);
        due("just half does not decide", x.boss(0), -9);
        due("SWINGS in halves", x.swings(1, 2), 1);
        due("no DEBTOR", x.swings(5, 0), -1);
        due("no HOLDER", x.swings(0, 5), -1);
        due("CORNER of equal parts", x.corner(), 0);
        due("BOSS of nobody's debts", x.boss(4), -9);
        due("nobody", x.boss(5), -1);
        x.owe(0, 1, 1, 9, 0);
        due("BOSS", x.boss(0), 1);
        due("SWINGS of the BOSS", x.swings(0, 1), 4);
        due("SWINGS beside a BOSS", x.swings(0, 2), 0);
        due("CORNER", x.corner(), 0);
        x.owe(2, 1, 1, 9, 0);
        due("CORNER of the whole", x.corner(), 2);
        x.owe(1, 4, 1, 9, 0);
        x.over(x.owe(3, 1, 1, 9, 0), 3);
        due("CANCELLED is no CORNER", x.corner(), 2);
        due("nobody's CORNER", people(3).corner(), -9);
    }

    /** Promises 24 to 27. */
    private static void looksAndChains() {
        KissesOwed x = after("p00;p00;p00;p00;p00;p00;u02;u30;u13;u43;o010500=;");
        int[] n = {0, 1, 2, 3, 4, 7, 8, 15, 16, 31, 32, 63, 64, 99};
        int[] looks = {0, 1, 2, 2, 3, 3, 4, 4, 5, 5, 6, 6, 7, 7};
        for (int i = 0; i < n.length; i++) {
            due("looks(" + n[i] + ")", x.looks(n[i]), looks[i]);
        }
        due("looks(-1)", x.looks(-1), -4);
        due("looks(100)", x.looks(100), -6);
        due("CHAIN", x.chain(0, 1), 1);
        due("CHAIN by 1", x.chain(0, 2), 2);
        due("CHAIN by 4 and 2", x.chain(0, 3), 2);
        due("CHAIN to himself", x.chain(3, 3), 0);
        x.unwilling(5, 3);
        due("CHAIN by 1 or 4 and 2", x.chain(0, 3), 3);
        x.unwilling(3, 2);
        due("no CHAIN", x.chain(0, 3), -9);
        due("no CHAIN", x.chain(3, 0), -9);
        due("nobody", x.chain(6, 0), -1);
        due("nobody", x.chain(0, -1), -1);
        due("IN IT", x.inIt(), 3);
        due("COMES IN: is in", x.comesIn(1), 0);
        due("COMES IN", x.comesIn(2), 1);
        due("COMES IN: not", x.comesIn(3), -9);
        due("COMES IN: nobody", x.comesIn(6), -1);
        x.go();
        due("IN IT no more", x.inIt(), 0);
        due("nobody is IN IT", x.comesIn(0), -9);
        // 2 by 3 and 4 to 0
        due("three steps", after("p00;p00;p00;p00;p00;u20;u21;u30;u31;u41;u42;o010509=;").comesIn(2), 3);
    }

    private static int fits(KissesOwed x, int... row) {
        x.clear();
        for (int v : row) {
            x.row(v);
        }
        return x.fits();
    }

    /** Promise 28. */
    private static void fits() {
        KissesOwed x = people(4);
        due("nobody kissed", fits(x, 0, 0, 0, 0), 1);
        due("two", fits(x, 1, 0, 0, 1), 1);
        due("not himself", fits(x, 1, 0, 1, 0), 0);
        due("three in a round", fits(x, 1, 1, 1, 1, 1, 1), 2);
        due("four in rounds", fits(x, 1, 1, 1, 1, 1, 1, 1, 1), 9);
        due("all", fits(x, 3, 3, 3, 3, 3, 3, 3, 3), 1);
        due("it stays", x.count(6), 8);
        due("too many", fits(x, 4, 3, 3, 3, 3, 3, 3, 3), 0);
        due("far too many", fits(x, 99, 0, 0, 99), 0);
        due("more kisses than kissed", fits(x, 1, 1, 1, 1, 1, 0), 0);
        due("two by two", fits(x, 2, 2, 2, 2, 2, 2, 2, 2), 9);
        x.unwilling(0, 1);
        due("UNWILLING", fits(x, 1, 0, 0, 1), 0);
        due("the other one may", fits(x, 0, 1, 1, 0), 1);
        due("three, one UNWILLING", fits(x, 1, 1, 1, 1, 1, 1), 1);
        for (int n : new int[] {0, 1, 2, 3, 5, 7, 9, 10, 12}) {
            due("ROW of " + n, fits(x, new int[n]), -3);
        }
        due("more than there are", fits(people(3), new int[8]), -3);
        due("as many as there are", fits(people(3), new int[6]), 1);
    }

    /** Promises 29 and 30. */
    private static void deathsAndHold() {
        KissesOwed x = after("p00;p00;d3;o010503=;o010504=;o010515=;o010516=;o010502=;o010505x;m050;");
        due("DAY itself above", x.deaths(0, 2, 0), 1);
        due("DAY itself below", x.deaths(0, 2, 1), 1);
        due("one DAY above", x.deaths(1, 6, 0), 5);
        due("one DAY below", x.deaths(1, 6, 1), 6);
        due("12 DAYS above", x.deaths(2, 20, 0), 2213314919066161L);
        due("12 DAYS below", x.deaths(2, 20, 1), 4096000000000000L);
        due("13 DAYS", x.deaths(3, 2, 0), REFUSED + 3);
        due("ahead of DAY", x.deaths(4, 2, 0), REFUSED + 3);
        due("not OPEN", x.deaths(5, 2, 0), REFUSED + 3);
        due("no paper", x.deaths(6, 1, 5), REFUSED + 1);
        due("t 1", x.deaths(3, 1, 5), REFUSED + 4);
        due("t 21", x.deaths(3, 21, 5), REFUSED + 6);
        due("part 2", x.deaths(3, 20, 2), REFUSED + 2);
        due("part -1", x.deaths(3, 20, -1), REFUSED + 2);
        x = after("p10;p10;p10;p10;p20;o031009=;o031109=;o131009=;o231009=;o131009=;o430109=;o300909=;");
        due("HOLD 0", x.hold(3, 0), 0);
        due("HOLD 1", x.hold(3, 1), 2);
        due("HOLD 2", x.hold(3, 2), 2 + 4);
        due("HOLD 3", x.hold(3, 3), 2 + 4 + 8);
        due("not so many unlike DEBTORS", x.hold(0, 2), -9);
        due("one of his", x.hold(0, 1), 64);
        due("none", x.hold(1, 1), -9);
        due("none of none", x.hold(1, 0), 0);
        due("k 4", x.hold(3, 4), -6);
        due("k -1", x.hold(3, -1), -4);
        due("nobody", x.hold(5, 9), -1);
        due("worth nothing, but one", after("p00;p00;o010598=;").hold(1, 1), 1);
    }

    /** Promises 31 and 32. */
    private static void rings() {
        KissesOwed x = after("p00;p00;p00;p00;p00;o340509=;o400609=;o030709=;o310809=;o140909=;");
        // 0 3 4 and 1 4 .. no; 3 1 4 0 is longer
        due("how long", x.ring(-1), 3);
        due("first", x.ring(0), 0);
        due("next", x.ring(1), 3);
        due("next", x.ring(2), 4);
        due("no more", x.ring(3), -9);
        due("below -1", x.ring(-2), -4);
        due("ROUND IT", x.round(), 5);
        x.owe(3, 4, 10, 9, 0);
        due("ROUND IT with more papers", x.round(), 6);
        x.owe(4, 1, 2, 9, 1);
        due("shorter", x.ring(-1), 2);
        due("first", x.ring(0), 1);
        due("next", x.ring(1), 4);
        due("ROUND IT", x.round(), 2);
        x = after("p00;p00;p00;p00;o020109=;o200109=;o030109=;o300109=;o120109=;o210109=;");
        due("of several the least", x.ring(0) * 10 + x.ring(1), 2);
        x = after("p00;p00;p00;o010109=;o120109=;");
        due("none", x.ring(-1), -9);
        due("none", x.ring(0), -9);
        due("below -1, none", x.ring(-2), -4);
        due("ROUND none", x.round(), -9);
        x = after("p00;p00;p00;p00;p00;o010509=;o120509=;o200509=;o130509=;o300509=;");
        due("then next", x.ring(2), 2);
    }

    /** Promise 33. */
    private static void stands() {
        KissesOwed x = after("p00;p00;p00;u12;o120509=;");
        due("nobody stands between, 0 helps", x.stands(), -9);
        x.unwilling(1, 0);
        due("now all could come by 0", x.stands(), 0);
        x = after("p00;p00;u01;o010509=;");
        due("either, the least", x.stands(), 0);
        x.unwilling(0, 1);
        due("no more than now", x.stands(), -9);
        due("nobody", new KissesOwed().stands(), -9);
    }

    /** Promises 34 to 38. */
    private static void duesAndTrade() {
        KissesOwed x = after("p00;p00;p00;u20;o010502=;o010704x;o120304=;o210904=;o020306=;");
        due("0 at once", x.rich(1, 0), 0);
        due("first DAY", x.rich(1, 5), 2);
        due("more", x.rich(1, 6), 4);
        due("all", x.rich(1, 14), 4);
        due("never", x.rich(1, 15), -9);
        due("never, LOST", x.rich(2, 4), -9);
        due("v -1", x.rich(0, -1), -4);
        due("v 1000", x.rich(0, 1000), -6);
        due("v 999", x.rich(0, 999), -9);
        due("nobody", x.rich(3, -1), -1);
        due("THE LAST", x.last(), 6);
        due("PAID BY 1", x.paidBy(1), 0);
        due("PAID BY 2", x.paidBy(2), 5);
        due("PAID BY 98", x.paidBy(98), 17);
        due("PAID BY 99", x.paidBy(99), -6);
        due("PAID BY -1", x.paidBy(-1), -4);
        street(x, "d5;");
        due("PAID BY ahead of DAY", x.paidBy(4), -4);
        due("PAID BY DAY", x.paidBy(5), 0);
        due("has it already", x.rich(1, 14), 5);
        due("HEIRS", x.heirs(0), 3);
        street(x, "d2;");
        due("no LAST", x.last(), -9);
        x = people(2);
        street(x, "d9;d9;d9;d9;d9;d9;d9;d9;d9;d9;d9;");
        due("no DAY", x.rich(0, 0), -9);
        due("no DAY", x.paidBy(98), -4);
        due("no DAY", x.paidBy(99), -6);
        x = after("p10;p10;p10;p40;o202000=;o200400=;o210900=;o311000=;o210200=;");
        // PURSES: 0 has 24, 1 has 9 + 9 + 2
        due("PURSES", 100 * x.person(0, 3) + x.person(1, 3), 2420);
        due("TRADE", x.trade(0, 1), 104);
        due("TRADE from the other side", x.trade(1, 0), 401);
        due("one twice", x.trade(1, 1), -1);
        due("nobody", x.trade(1, 4), -1);
        due("nothing held", x.trade(0, 3), -9);
        x.unwilling(1, 2);
        due("UNWILLING to take", x.trade(0, 1), -9);
        x = after("p10;p10;p10;o102000=;o202000=;o021000=;o211000=;");
        due("not to its DEBTOR", x.trade(0, 1), 103);
        due("HEIRS", x.heirs(2), 30);
        due("HEIRS", x.heirs(1), 20);
        due("HEIRS of nobody", x.heirs(3), -1);
        due("no HEIRS", people(1).heirs(0), 0);
    }

    /** Promise 39. */
    private static void stuckAndCancels() {
        KissesOwed x = after("p00;p00;o010509=;o100509=;");
        due("just two", x.stuck(), 3);
        due("CANCELS", x.cancels(), 5);
        street(x, "p00;");
        due("a third", x.stuck(), 0);
        x.unwilling(2, 0);
        due("UNWILLING towards 0", x.stuck(), 1);
        x.unwilling(0, 2);
        x.unwilling(1, 2);
        due("the other way matters not", x.stuck(), 1);
        x.over(0, 0);
        due("not OPEN", x.stuck(), 0);
        due("CANCELS", x.cancels(), 0);
    }

    /** Promises 41 and 42. */
    private static void bestOverAndRelieved() {
        KissesOwed x = after("p00;p00;p00;p00;o020509=;o130709=;");
        due("to the DEBTOR", x.bestOver(), 0);
        x = after("p00;p00;p00;p00;o010509=;o120509=;o230509=;");
        due("one payment to none: he who pays takes it", x.bestOver(), 20);
        x = after("p00;p00;p00;o010509=;o120509=;o020309=;");
        // -8 0 8: one payment; no paper by itself makes none
        due("no better", x.bestOver(), -9);
        x = after("p00;p00;p00;u20;u21;u10;o010509=;o100409=;o120109=;");
        // NETS -1 0 1; 1 over to 1 leaves -5 4 1; 2 over to its DEBTOR -1 1 0; 2 over to 0: 0 0 0
        due("another takes it", x.bestOver(), 20);
        due("none", people(3).bestOver(), -9);
        x = after("p00;p00;p00;o010409=;o020609=;o010309=;o201009=;o020609=;m040;");
        // NET of 0: 10 less 13
        due("RELIEVED of one", x.relieved(0, 0), 1);
        due("of several the least bits", x.relieved(0, 1), 1);
        x.owe(0, 1, 5, 9, 0);
        due("of two", x.relieved(0, 0), 2);
        due("4 and 6", x.relieved(0, 1), 1 + 2);
        due("so already", x.relieved(1, 0) + x.relieved(1, 1), 0);
        due("all", x.relieved(2, 1), 8);
        due("what 2", x.relieved(0, 2), -2);
        due("what -1", x.relieved(0, -1), -2);
        due("nobody", x.relieved(3, 2), -1);
        x = after("p00;p00;o010109=;o010909=;o010809=;o010209=;o101109=;");
        // 20 less 11: lacks 9
        due("the one of 9", x.relieved(0, 1), 2);
    }

    /** Promise 43. */
    private static void power() {
        KissesOwed x = after("p00;p00;p00;p00;p00;o010309=;o020209=;o030209=;o010109x;");
        // 1 has 4 of 8: he comes last but one or later unless first; 2 and 3 with him
        due("POWER above", x.power(0, 1, 0), 2);
        due("POWER below", x.power(0, 1, 1), 3);
        due("POWER above", x.power(0, 2, 0), 1);
        due("POWER below", x.power(0, 2, 1), 6);
        due("none held above", x.power(0, 4, 0), 0);
        due("none held below", x.power(0, 4, 1), 1);
        due("himself", x.power(0, 0, 1), 1);
        due("no debts", 10 * x.power(1, 0, 0) + x.power(1, 0, 1), 1);
        due("no DEBTOR", x.power(5, 0, 2), REFUSED + 1);
        due("no HOLDER", x.power(0, -1, 0), REFUSED + 1);
        due("part 2", x.power(0, 1, 2), REFUSED + 2);
        due("part -1", x.power(0, 1, -1), REFUSED + 2);
        x.owe(0, 1, 1, 9, 0);
        due("he alone", 10 * x.power(0, 1, 0) + x.power(0, 1, 1), 11);
        due("beside him", 10 * x.power(0, 2, 0) + x.power(0, 2, 1), 1);
        x = after("p00;p00;p00;p00;p00;p00;p00;o010109=;o020109=;o030109=;o040109=;o050109=;o060109=;");
        due("six alike", 10 * x.power(0, 6, 0) + x.power(0, 6, 1), 16);
    }

    /** Promise 46. */
    private static void roundsAndHeaviest() {
        KissesOwed x = after("p00;p00;p00;p00;o010909=;o020809=;o210809=;o310409=;o320409=;");
        // 02 and 21, or 02 and 31, ..: 8 + 8
        due("HEAVIEST", x.heaviest(0), 6);
        due("QUARTERS", x.heaviest(1), 16);
        due("what 2", x.heaviest(2), -2);
        due("what -1", x.heaviest(-1), -2);
        x = after("p00;p00;p00;o010509=;o010509=;o210509=;");
        due("of several the least", x.heaviest(0), 1);
        x = after("p00;p00;p00;o010509=;o120509=;o200509=;");
        due("a DEBTOR may be a HOLDER", x.heaviest(0), 7);
        due("none", people(2).heaviest(0) + people(2).heaviest(1), 0);
        x = after("p00;p00; " + "o010109=;".repeat(10));
        due("10 OPEN", x.heaviest(1), 1);
        x.owe(0, 1, 1, 9, 0);
        due("11 OPEN", x.heaviest(1), -3);
        due("11 OPEN, what", x.heaviest(5), -2);
        x.over(0, 0);
        due("10 OPEN of 11", x.heaviest(0), 2);
    }

    /** Promises 47 to 49. */
    private static void rows() {
        KissesOwed x = after("p00;p00;o013725=;o010500=;o010600=;");
        due("row", x.row(0), 1);
        due("row", x.row(99), 2);
        due("row(-1)", x.row(-1), -4);
        due("row(100)", x.row(100), -6);
        due("clear", x.clear(), 2);
        due("clear", x.clear(), 0);
        for (int i = 1; i <= 12; i++) {
            due("row", x.row(i), i);
        }
        due("13th", x.row(5), -6);
        due("13th below", x.row(-5), -4);
        due("first not so", x.judge(), 0);
        due("none then", x.count(6), 0);
        x.row(19);
        x.row(5);
        due("all so", x.judge(), -9);
        due("none then", x.count(6), 0);
        x.row(19);
        x.row(5);
        x.row(7);
        due("third not so", x.judge(), 2);
        x.row(19);
        x.row(5);
        x.row(6);
        x.row(0);
        due("no such paper", x.judge(), 3);
        due("empty", x.judge(), -9);
        x.go();
        x.row(20);
        x.row(0);
        x.row(0);
        due("PAID is worth 0", x.judge(), -9);
    }

    /** Promise 50, with the DRAWS told by hand. */
    private static void lots() {
        KissesOwed x = after("p00;p00;p00;u21;o010700=;o020598=;o020350x;o121150=;o010250=;m040;");
        int seed = 5;
        int paid = 0;
        for (int year = 0; year < 3; year++) {
            for (int p = 0; p < 4; p++) {
                seed = seed * 1103515245 + 12345;
                paid += p == 0 ? 7 : p == 1 ? 5 : 0;
            }
        }
        due("all willing ones are PAID from DAY 0", x.lots(3, 5), paid);
        street(x, "d9;d9;d9;d9;d9;d5;");
        // DAY 50: what a DRAW makes due ahead of it stays
        int open = 0;
        seed = -77;
        for (int year = 0; year < 20; year++) {
            for (int p = 1; p < 4; p++) {
                seed = seed * 1103515245 + 12345;
                int draw = (seed & 0x7fffffff) / 65536 % 99;
                open += p == 1 && draw >= 50 ? 5 : 0;
            }
        }
        due("OPEN ones alone, by numbers", x.lots(20, -77), open);
        due("nothing changed", x.count(2) * 10 + x.count(3), 503);
        due("n 0", x.lots(0, 5), -4);
        due("n 21", x.lots(21, 5), -6);
        street(x, "d9;d9;d9;d9;d9;d4;");
        due("DAY 99", x.lots(20, 5), 0);
    }

    /** Promises 51 and 52. */
    private static void images() {
        KissesOwed x = after("p00;p13;o010505=;o010500=;");
        due("no IMAGE", x.restore(), -3);
        x.go();
        x.feed('p');
        x.row(7);
        due("image", x.image(), 1);
        street(x, "00;p22;u01;m000;d9;");
        x.owe(2, 1, 4, 20, 0);
        x.go();
        x.row(8);
        x.feed('z');
        x.person(9, 9);
        due("restore", x.restore(), 1);
        due("people", x.count(0), 2);
        due("papers", x.count(1), 2);
        due("OPEN", x.count(3), 1);
        due("KISSED", x.count(4), 5);
        due("willing", x.person(0, 4), 0);
        due("letters stay", x.count(5), 1);
        due("the ROW stays", x.count(6), 2);
        due("REFUSALS stay", x.count(11) * 10 + x.count(13), 11);
        due("nothing to be TAKEN BACK", x.back(), -3);
        x.go();
        due("restore again", x.restore(), 1);
        due("HOLDER", x.paper(0, 1), 1);
        street(x, "x");
        street(x, "p33;u20;");
        due("a new one is as told", x.person(2, 0) * 100 + x.person(2, 1) * 10 + x.person(2, 4), 331);
    }

    /** Promise 53. */
    private static void counts() {
        KissesOwed x = after("p00;p00;p00;o010500=;o120700=;o200900=;o010905=;o010905=;m040;d2;");
        x.feed('p');
        x.feed('q');
        x.row(1);
        x.go();
        int[] due = {3, 5, 3, 1, 21, 2, 1, 1};
        for (int what = 0; what < 8; what++) {
            due("count(" + what + ")", x.count(what), due[what]);
        }
        x.person(7, 0);
        x.net(9);
        x.deaths(99, 2, 0);
        x.person(0, 7);
        x.fits();
        x.over(0, 1);
        x.over(0, 2);
        x.looks(-1);
        x.looks(100);
        x.row(100);
        x.row(100);
        x.row(100);
        int[] refused = {3, 1, 3, 1, 0, 4};
        for (int i = 0; i < 6; i++) {
            due("count(" + (11 + i) + ")", x.count(11 + i), refused[i]);
        }
        for (int what : new int[] {-1, 8, 9, 10, 17, Integer.MAX_VALUE, Integer.MIN_VALUE}) {
            due("count(" + what + ")", x.count(what), -9);
        }
        due("-9 is not counted", x.count(11), 3);
    }
}
