import java.util.Random;

/** Every call with numbers from all over the range of int, in all states: none throws, and wrong ones change nothing. */
public final class KissesOwedHostile {
    private static final int[] EDGES = {Integer.MIN_VALUE, Integer.MIN_VALUE + 1, -1000000007, -65536, -100, -17, -9,
        -2, -1, 0, 1, 2, 3, 4, 5, 6, 7, 8, 11, 12, 15, 16, 17, 20, 21, 31, 32, 33, 40, 41, 63, 64, 95, 96, 97, 98, 99,
        100, 127, 128, 255, 256, 999, 1000, 65535, 1 << 30, Integer.MAX_VALUE - 1, Integer.MAX_VALUE};
    private static final String[] STREETS = {"p00;", "p13;p25;p39;", "p41;p52;", "p02;", "u01;u12;", "u20;", "u65;",
        "o010510=;", "o120620x;o230730=;", "o340840=;o450950=;", "o561060=;o601170=;", "o104000=;o021101=;", "d1;",
        "d9;d9;d9;", "m001;", "m013;", "m020;m030;", "p", "o01", "d9;d9;d9;d9;d9;d9;d9;d9;d9;d9;d9;"};

    public static void main(String[] args) {
        for (int run = 0; run < 3000; run++) {
            play(new Random(run));
        }
        System.out.println("nothing was thrown");
    }

    private static int number(Random lot) {
        int kind = lot.nextInt(10);
        return kind == 0 ? lot.nextInt() : kind < 4 ? EDGES[lot.nextInt(EDGES.length)] : lot.nextInt(8);
    }

    private static void play(Random lot) {
        KissesOwed x = new KissesOwed();
        for (int i = 0; i < 300; i++) {
            if (lot.nextInt(10) == 0) {
                for (char c : STREETS[lot.nextInt(STREETS.length)].toCharArray()) {
                    x.feed(c);
                }
                x.street();
            }
            ask(x, lot.nextInt(52), number(lot), number(lot), number(lot));
        }
        int refused = 0;
        for (int what = 11; what <= 16; what++) {
            refused += x.count(what);
        }
        if (x.count(0) > 7 || x.count(1) > 16 || x.count(2) > 99 || x.count(7) > 8 || refused < 1) {
            System.out.println("beyond what there can be");
            System.exit(1);
        }
    }

    private static long ask(KissesOwed x, int call, int a, int b, int c) {
        switch (call) {
            case 0: return x.feed(a);
            case 1: return x.street();
            case 2: return x.person(a, b);
            case 3: return x.paper(a, b);
            case 4: return x.unwilling(a, b);
            case 5: return x.owe(a, b, c, a + b, c & 1);
            case 6: return x.over(a, b);
            case 7: return x.go();
            case 8: return x.back();
            case 9: return x.owes(a, b);
            case 10: return x.net(a);
            case 11: return x.payments();
            case 12: return x.through(a);
            case 13: return x.nobodyWill();
            case 14: return x.square(a);
            case 15: return x.soonest(a);
            case 16: return x.busiest();
            case 17: return x.gain(a, b);
            case 18: return x.bestBuy(a);
            case 19: return x.swings(a, b);
            case 20: return x.boss(a);
            case 21: return x.corner();
            case 22: return x.looks(a);
            case 23: return x.chain(a, b);
            case 24: return x.inIt();
            case 25: return x.comesIn(a);
            case 26: return x.fits();
            case 27: return x.deaths(a, b, c);
            case 28: return x.hold(a, b);
            case 29: return x.ring(a);
            case 30: return x.round();
            case 31: return x.stands();
            case 32: return x.rich(a, b);
            case 33: return x.last();
            case 34: return x.paidBy(a);
            case 35: return x.trade(a, b);
            case 36: return x.heirs(a);
            case 37: return x.stuck();
            case 38: return x.cancels();
            case 39: return x.bestOver();
            case 40: return x.relieved(a, b);
            case 41: return x.power(a, b, c);
            case 42: return x.atOnce();
            case 43: return x.rounds();
            case 44: return x.heaviest(a);
            case 45: return x.row(a);
            case 46: return x.judge();
            case 47: return x.clear();
            case 48: return x.lots(a, b);
            case 49: return x.image();
            case 50: return x.restore();
            default: return x.count(a);
        }
    }
}
