import java.util.Random;

/** Asks the program and Plain the same, over many runs by lot with seeds that are always the same. */
public final class KissesOwedAgainstPlain {
    private static final int RUNS = 1000;
    private static final int CALLS = 400;
    private static int wrong = 0;
    private static long asked = 0;

    private final int run;
    private final Random lot;
    private final KissesOwed x = new KissesOwed();
    private final Plain y = new Plain();
    private final StringBuilder told = new StringBuilder();
    private final int farDues;
    private final int unwillingOdds;
    /** Whose debts most papers are, in some runs; else -1. */
    private final int oneDebtor;

    private KissesOwedAgainstPlain(int run) {
        this.run = run;
        lot = new Random(run);
        farDues = lot.nextInt(3) == 0 ? 99 : 1 + lot.nextInt(20);
        unwillingOdds = lot.nextInt(5);
        oneDebtor = lot.nextInt(3) == 0 ? lot.nextInt(3) : -1;
    }

    public static void main(String[] args) {
        for (int run = 0; run < RUNS && wrong == 0; run++) {
            new KissesOwedAgainstPlain(run).play();
        }
        System.out.println(wrong == 0 ? asked + " answers as Plain's" : "not as Plain's");
        if (wrong != 0) {
            System.exit(1);
        }
    }

    private void same(String call, long got, long due) {
        asked++;
        told.append(call).append(" = ").append(due).append('\n');
        if (got != due && wrong == 0) {
            wrong++;
            System.out.println("run " + run + ": " + call + " answered " + got + ", due is " + due + "; calls up to it:");
            System.out.println(told.substring(Math.max(0, told.length() - 2500)));
        }
    }

    private int one() {
        int many = Math.max(1, x.count(0));
        return lot.nextInt(25) == 0 ? lot.nextInt(10) - 2 : lot.nextInt(many);
    }

    private int paper() {
        int many = Math.max(1, x.count(1));
        return lot.nextInt(25) == 0 ? lot.nextInt(20) - 2 : lot.nextInt(many);
    }

    private int what(int most) {
        return lot.nextInt(15) == 0 ? lot.nextInt(24) - 4 : lot.nextInt(most + 1);
    }

    private int number(int least, int most) {
        return lot.nextInt(12) == 0 ? least - 2 + lot.nextInt(most - least + 5) : least + lot.nextInt(most - least + 1);
    }

    private void play() {
        tell(people());
        makeUnwilling();
        if (lot.nextInt(5) == 0) {
            tell("d9;d9;d9;d9;d9;d9;d9;d9;d9;d9;d" + lot.nextInt(10) + ";");
        }
        while (lot.nextInt(3) != 0) {
            tell(statements());
        }
        for (int i = 0; i < CALLS && wrong == 0; i++) {
            if (lot.nextInt(8) == 0) {
                tell(statements());
            }
            ask(lot.nextInt(60));
        }
    }

    private void makeUnwilling() {
        int odds = new int[] {0, 0, 10, 20, 35}[unwillingOdds];
        for (int a = 0; a < x.count(0); a++) {
            for (int b = 0; b < x.count(0); b++) {
                if (lot.nextInt(100) < odds) {
                    same("unwilling(" + a + "," + b + ")", x.unwilling(a, b), y.unwilling(a, b));
                }
            }
        }
    }

    private String people() {
        StringBuilder s = new StringBuilder();
        int many = lot.nextInt(10) == 0 ? lot.nextInt(3) : 3 + lot.nextInt(5);
        for (int i = 0; i < many; i++) {
            s.append('p').append(lot.nextInt(6)).append(lot.nextInt(10)).append(';');
        }
        return s.toString();
    }

    private String statements() {
        StringBuilder s = new StringBuilder();
        int many = 1 + lot.nextInt(8);
        for (int i = 0; i < many; i++) {
            statement(s);
        }
        if (lot.nextInt(12) == 0 && s.length() > 0) {
            s.setCharAt(lot.nextInt(s.length()), "pu;omd=x0123456789 \u00ff".charAt(lot.nextInt(20)));
        }
        if (lot.nextInt(15) == 0) {
            s.setLength(lot.nextInt(s.length() + 1));
        }
        return s.toString();
    }

    private void statement(StringBuilder s) {
        int many = Math.max(1, x.count(0));
        int a = lot.nextInt(30) == 0 ? lot.nextInt(10) : lot.nextInt(many);
        if (oneDebtor >= 0 && lot.nextInt(3) != 0) {
            a = oneDebtor;
        }
        int b = lot.nextInt(30) == 0 ? lot.nextInt(10) : (a + 1 + lot.nextInt(Math.max(1, many - 1))) % many;
        int kind = lot.nextInt(20);
        if (kind == 0) {
            s.append('p').append(lot.nextInt(6)).append(lot.nextInt(10)).append(';');
        } else if (kind < 1 + unwillingOdds) {
            s.append('u').append(a).append(b).append(';');
        } else if (kind < 17) {
            int quarters = lot.nextInt(30) == 0 ? lot.nextInt(100) : 1 + lot.nextInt(lot.nextBoolean() ? 40 : 5);
            int due = lot.nextInt(30) == 0 ? lot.nextInt(100) : Math.min(98, lot.nextInt(farDues));
            s.append('o').append(a).append(b).append(quarters / 10).append(quarters % 10).append(due / 10)
                    .append(due % 10).append(lot.nextInt(5) == 0 ? 'x' : '=').append(';');
        } else if (kind < 19) {
            int paper = lot.nextInt(Math.max(1, x.count(1)));
            s.append('m').append(paper / 10).append(paper % 10).append(a).append(';');
        } else {
            s.append('d').append(lot.nextInt(4)).append(';');
        }
    }

    private void tell(String text) {
        for (int i = 0; i < text.length(); i++) {
            int letter = text.charAt(i);
            same("feed(" + letter + ")", x.feed(letter), y.feed(letter));
        }
        same("street() of " + text, x.street(), y.street());
        look();
    }

    /** All that can be seen of part I. */
    private void look() {
        for (int what = 0; what < 17; what++) {
            same("count(" + what + ")", x.count(what), y.count(what));
        }
        for (int i = 0; i < x.count(0); i++) {
            for (int what = 0; what < 5; what++) {
                same("person(" + i + "," + what + ")", x.person(i, what), y.person(i, what));
            }
        }
        for (int i = 0; i < x.count(1); i++) {
            for (int what = 0; what < 7; what++) {
                same("paper(" + i + "," + what + ")", x.paper(i, what), y.paper(i, what));
            }
        }
    }

    private void ask(int call) {
        if (call < 20) {
            askFirst(call);
        } else if (call < 40) {
            askSecond(call);
        } else {
            askThird(call);
        }
    }

    private void askFirst(int call) {
        int a = one();
        int b = one();
        int p = paper();
        switch (call) {
            case 0: {
                int letter = number(0, 255);
                same("feed(" + letter + ")", x.feed(letter), y.feed(letter));
                break;
            }
            case 1: {
                int what = what(4);
                same("person(" + a + "," + what + ")", x.person(a, what), y.person(a, what));
                break;
            }
            case 2: {
                int what = what(6);
                same("paper(" + p + "," + what + ")", x.paper(p, what), y.paper(p, what));
                break;
            }
            case 3:
                if (lot.nextInt(5) <= unwillingOdds) {
                    same("unwilling(" + a + "," + b + ")", x.unwilling(a, b), y.unwilling(a, b));
                    look();
                }
                break;
            case 4: {
                int q = number(1, 40);
                int due = lot.nextInt(10) == 0 ? number(0, 98) : lot.nextInt(farDues);
                int f = lot.nextInt(20) == 0 ? lot.nextInt(7) - 3 : lot.nextInt(5) / 4;
                same("owe(" + a + "," + b + "," + q + "," + due + "," + f + ")", x.owe(a, b, q, due, f),
                        y.owe(a, b, q, due, f));
                look();
                break;
            }
            case 5:
            case 6:
                same("over(" + p + "," + a + ")", x.over(p, a), y.over(p, a));
                look();
                break;
            case 7:
                same("go()", x.go(), y.go());
                look();
                break;
            case 8:
                same("back()", x.back(), y.back());
                look();
                break;
            case 9:
                same("owes(" + a + "," + b + ")", x.owes(a, b), y.owes(a, b));
                break;
            case 10:
                same("net(" + a + ")", x.net(a), y.net(a));
                break;
            case 11:
                same("payments()", x.payments(), y.payments());
                break;
            case 12: {
                int what = what(1);
                same("through(" + what + ")", x.through(what), y.through(what));
                break;
            }
            case 13:
                same("nobodyWill()", x.nobodyWill(), y.nobodyWill());
                break;
            case 14: {
                int what = what(1);
                same("square(" + what + ")", x.square(what), y.square(what));
                break;
            }
            case 15: {
                int i = lot.nextInt(10) - 1;
                same("soonest(" + i + ")", x.soonest(i), y.soonest(i));
                break;
            }
            case 16:
                same("busiest()", x.busiest(), y.busiest());
                break;
            case 17:
                same("gain(" + a + "," + b + ")", x.gain(a, b), y.gain(a, b));
                break;
            case 18:
                same("bestBuy(" + a + ")", x.bestBuy(a), y.bestBuy(a));
                break;
            default: {
                int debtor = oneDebtor >= 0 && lot.nextBoolean() ? oneDebtor : a;
                same("swings(" + debtor + "," + b + ")", x.swings(debtor, b), y.swings(debtor, b));
            }
        }
    }

    private void askSecond(int call) {
        int a = one();
        int b = one();
        int p = paper();
        switch (call) {
            case 20:
                same("boss(" + a + ")", x.boss(a), y.boss(a));
                break;
            case 21:
                same("corner()", x.corner(), y.corner());
                break;
            case 22: {
                int n = number(0, 99);
                same("looks(" + n + ")", x.looks(n), y.looks(n));
                break;
            }
            case 23:
                same("chain(" + a + "," + b + ")", x.chain(a, b), y.chain(a, b));
                break;
            case 24:
                same("inIt()", x.inIt(), y.inIt());
                break;
            case 25:
                same("comesIn(" + a + ")", x.comesIn(a), y.comesIn(a));
                break;
            case 26:
                fits();
                break;
            case 27: {
                int t = number(2, 20);
                int part = what(1);
                same("deaths(" + p + "," + t + "," + part + ")", x.deaths(p, t, part), y.deaths(p, t, part));
                break;
            }
            case 28: {
                int k = number(0, 3);
                same("hold(" + a + "," + k + ")", x.hold(a, k), y.hold(a, k));
                break;
            }
            case 29:
            case 30: {
                int i = lot.nextInt(10) - 2;
                same("ring(" + i + ")", x.ring(i), y.ring(i));
                break;
            }
            case 31:
                same("round()", x.round(), y.round());
                break;
            case 32:
                same("stands()", x.stands(), y.stands());
                break;
            case 33: {
                int v = lot.nextInt(4) == 0 ? number(0, 999) : lot.nextInt(60);
                same("rich(" + a + "," + v + ")", x.rich(a, v), y.rich(a, v));
                break;
            }
            case 34:
                same("last()", x.last(), y.last());
                break;
            case 35: {
                int n = lot.nextInt(105) - 2;
                same("paidBy(" + n + ")", x.paidBy(n), y.paidBy(n));
                break;
            }
            case 36:
            case 37:
                same("trade(" + a + "," + b + ")", x.trade(a, b), y.trade(a, b));
                break;
            case 38:
                same("heirs(" + a + ")", x.heirs(a), y.heirs(a));
                break;
            default:
                same("stuck()", x.stuck(), y.stuck());
        }
    }

    private void askThird(int call) {
        int a = oneDebtor >= 0 && lot.nextBoolean() ? oneDebtor : one();
        int b = one();
        switch (call) {
            case 40:
                same("cancels()", x.cancels(), y.cancels());
                break;
            case 41:
            case 42:
                same("bestOver()", x.bestOver(), y.bestOver());
                break;
            case 43: {
                int what = what(1);
                same("relieved(" + a + "," + what + ")", x.relieved(a, what), y.relieved(a, what));
                break;
            }
            case 44:
            case 45: {
                int part = what(1);
                same("power(" + a + "," + b + "," + part + ")", x.power(a, b, part), y.power(a, b, part));
                break;
            }
            case 46:
                same("atOnce()", x.atOnce(), y.atOnce());
                break;
            case 47:
                same("rounds()", x.rounds(), y.rounds());
                break;
            case 48:
            case 49: {
                int what = what(1);
                same("heaviest(" + what + ")", x.heaviest(what), y.heaviest(what));
                break;
            }
            case 50:
            case 51: {
                int v = number(0, 99);
                same("row(" + v + ")", x.row(v), y.row(v));
                break;
            }
            case 52:
                judge();
                break;
            case 53:
                same("clear()", x.clear(), y.clear());
                break;
            case 54: {
                int n = number(1, 20);
                int z = lot.nextInt();
                same("lots(" + n + "," + z + ")", x.lots(n, z), y.lots(n, z));
                break;
            }
            case 55:
                same("image()", x.image(), y.image());
                break;
            case 56:
                if (lot.nextInt(4) == 0) {
                    same("restore()", x.restore(), y.restore());
                    look();
                }
                break;
            default: {
                int what = lot.nextInt(24) - 3;
                same("count(" + what + ")", x.count(what), y.count(what));
            }
        }
    }

    /** A ROW that tells of kisses by lot, and now and then is not so. */
    private void fits() {
        if (lot.nextInt(8) != 0) {
            same("clear()", x.clear(), y.clear());
            int n = 2 + lot.nextInt(3);
            int[] sums = new int[2 * n];
            for (int i = 0; i < n; i++) {
                for (int j = 0; j < n; j++) {
                    if (i != j && lot.nextBoolean()) {
                        sums[i]++;
                        sums[n + j]++;
                    }
                }
            }
            for (int v : sums) {
                int w = lot.nextInt(20) == 0 ? lot.nextInt(100) : v;
                same("row(" + w + ")", x.row(w), y.row(w));
            }
        }
        same("fits()", x.fits(), y.fits());
        same("count(6)", x.count(6), y.count(6));
    }

    /** A ROW of WORTHS, and now and then one that is not so. */
    private void judge() {
        if (lot.nextInt(8) != 0) {
            same("clear()", x.clear(), y.clear());
            int n = lot.nextInt(13);
            for (int i = 0; i < n; i++) {
                int worth = y.paper(i, 6);
                same("paper(" + i + ",6)", x.paper(i, 6), worth);
                int v = lot.nextInt(12) == 0 ? lot.nextInt(41) : Math.max(0, worth);
                same("row(" + v + ")", x.row(v), y.row(v));
            }
        }
        same("judge()", x.judge(), y.judge());
        same("count(6)", x.count(6), y.count(6));
    }
}
