/** For each promise of the document: ordinary calls, the edges that it names, and wrong calls. */
public final class PromiseTests {
    private static final int BAD = -1000000001, NO = -1000000002, FULL = -1000000003, NONE = -1000000005;
    private static final int NOTHING = -1000000011, KIND = -1000000012, INDEX = -1000000013, SIZE = -1000000014;
    private static final int LOW = Integer.MIN_VALUE, HIGH = Integer.MAX_VALUE;

    private static int wrong = 0;
    private static int asked = 0;

    private static void due(String call, int got, int want) {
        asked++;
        if (got != want) {
            wrong++;
            System.out.println(call + " answered " + got + ", due is " + want);
        }
    }

    public static void main(String[] args) {
        p1New();
        p2Jug();
        p3Told();
        p3ToldByWant();
        p4As();
        p5Turns();
        p6Set();
        p7Gives();
        p8Heart();
        p9Hand();
        p10Frost();
        p11Deal();
        p12Seed();
        p13Days();
        p13Sales();
        p13Frost();
        p13Bounds();
        p14Town();
        p15Measure();
        p16Behind();
        p17Enough();
        p18Heir();
        p19Hearts();
        p20Becomes();
        p21Like();
        p22Fee();
        p23Fine();
        p24Feed();
        p25Trim();
        p26Text();
        p26Faults();
        p26Values();
        p27TextTold();
        p28Why();
        p29Sheet();
        p30Mark();
        p31Pour();
        p32Reads();
        p33Copy();
        p34Lay();
        p35Ask();
        p36Item();
        p37Rest();
        p38Tell();
        p39Check();
        p40Keep();
        p41Back();
        p42Count();
        System.out.println(asked + " answers, " + wrong + " not as due");
        if (wrong != 0) {
            System.exit(1);
        }
    }

    // ---- helpers

    private static void onTape(JugMemory x, String text) {
        x.trim(0);
        for (int i = 0; i < text.length(); i += 12) {
            x.feed(four(text, i), four(text, i + 4), four(text, i + 8));
        }
        x.trim(text.length());
    }

    private static int four(String text, int from) {
        int bits = 0;
        for (int i = from; i < from + 4; i++) {
            bits = bits << 8 | (i < text.length() ? text.charAt(i) & 255 : 'x');
        }
        return bits;
    }

    private static int textOf(JugMemory x, String text) {
        onTape(x, text);
        return x.text();
    }

    /** A z by which the draws of the next day are a jug, a hand and a frost as wanted (those below 0: any). */
    private static int seedFor(int jugs, int jug, int hand, int leastFrost, int mostFrost) {
        for (int seed = 0; seed < 10000000; seed++) {
            int z = seed * 1103515245 + 12345;
            int first = (z >>> 8) % jugs;
            z = z * 1103515245 + 12345;
            int second = (z >>> 8) % 8;
            z = z * 1103515245 + 12345;
            int third = (z >>> 8) % 100;
            if (first == jug && second == hand && third >= leastFrost && third <= mostFrost) {
                return seed;
            }
        }
        throw new IllegalStateException("no such seed");
    }

    private static int stepped(int z, int draws) {
        for (int i = 0; i < draws; i++) {
            z = z * 1103515245 + 12345;
        }
        return z;
    }

    // ---- jugs

    private static void p1New() {
        JugMemory x = new JugMemory();
        int[] counts = {0, 0, 5, 0, 0, 0, 0, 0, 0, 1};
        for (int i = 0; i < counts.length; i++) {
            due("new count(" + i + ")", x.count(i), counts[i]);
        }
        for (int h = 0; h < 8; h++) {
            due("new hand(" + h + ", 0)", x.hand(h, 0), 3);
            due("new hand(" + h + ", 1)", x.hand(h, 1), 0);
            due("new hand(" + h + ", 2)", x.hand(h, 2), 0);
        }
        for (int i = 0; i < 4; i++) {
            due("new reads(" + i + ")", x.reads(i), NOTHING);
        }
        for (int i = 0; i < 5; i++) {
            due("new rest", x.rest(i, 1), NOTHING);
        }
        for (int i = 0; i < 3; i++) {
            due("new why", x.why(i), NONE);
        }
        due("new back", x.back(), NO);
        due("new told", x.told(0, 0), BAD);
    }

    private static void p2Jug() {
        JugMemory x = new JugMemory();
        int[][] bad = {{-1, 5, 0, 0}, {6, 5, 0, 0}, {0, 0, 0, 0}, {0, 100, 0, 0}, {0, 5, -1, 0}, {0, 5, 8, 0},
            {0, 5, 0, -1}, {0, 5, 0, 6}, {LOW, LOW, LOW, LOW}, {HIGH, HIGH, HIGH, HIGH}};
        for (int[] b : bad) {
            due("jug bad", x.jug(b[0], b[1], b[2], b[3]), BAD);
        }
        due("no jug came", x.count(0), 0);
        for (int i = 0; i < 10; i++) {
            due("jug " + i, x.jug(i % 6, 99 - i, i % 8, i), i);
            due("kind", x.told(i, 0), i % 6);
            due("brim", x.told(i, 1), 99 - i);
            due("mark", x.told(i, 2), i);
            due("hand", x.told(i, 3), i % 8);
            due("fills", x.told(i, 4), 0);
        }
        due("jug full", x.jug(0, 5, 0, 5), FULL);
        due("jug bad ahead of full", x.jug(0, 5, 0, 6), BAD);
        due("jugs", x.count(0), 10);
        JugMemory y = new JugMemory();
        due("jug of brim 1", y.jug(0, 1, 7, 1), 0);
        due("jug of brim 99", y.jug(5, 99, 0, 99), 1);
    }

    private static void p3Told() {
        // kind, brim, mark, heart: TO, KEEPS, WORTH
        int[][] rows = {
            {0, 20, 10, 3, 10, 11, 10}, {0, 20, 20, 9, 20, 20, 20}, {0, 20, 18, 9, 18, 20, 18}, {0, 20, 0, 2, 0, 0, 0},
            {0, 20, 7, 8, 7, 9, 7}, {0, 20, 7, 5, 7, 8, 7},
            {1, 30, 28, 3, 15, 28, 68}, {1, 31, 10, 9, 10, 13, 50}, {1, 31, 31, 0, 15, 31, 71}, {1, 1, 1, 9, 0, 1, 41},
            {3, 40, 33, 3, 16, 32, 36}, {3, 40, 10, 9, 8, 10, 25}, {3, 9, 0, 0, 0, 0, 20}, {3, 40, 9, 0, 8, 8, 24},
            {3, 40, 4, 9, 4, 6, 22}, {3, 1, 1, 9, 0, 0, 20}, {3, 10, 5, 3, 4, 4, 22},
            {2, 12, 5, 9, 6, 6, 7}, {2, 12, 12, 0, 12, 12, 0}, {2, 12, 0, 0, 1, 1, 12}, {2, 12, 11, 0, 12, 12, 1},
            {4, 25, 9, 9, 5, 4, 11}, {4, 25, 0, 0, 0, 0, 20}, {4, 25, 25, 9, 12, 11, 0}, {4, 25, 20, 9, 10, 9, 0},
            {4, 25, 19, 9, 10, 9, 1}, {4, 25, 1, 9, 1, 0, 19}, {4, 25, 21, 9, 11, 10, 0},
            {5, 2, 0, 0, 2, 2, 3}, {5, 99, 50, 9, 99, 99, 3}};
        for (int[] r : rows) {
            JugMemory x = new JugMemory();
            x.jug(r[0], r[1], 6, r[2]);
            x.heart(6, r[3]);
            String of = "kind " + r[0] + " brim " + r[1] + " mark " + r[2] + " heart " + r[3];
            due(of + " TO", x.told(0, 5), r[4]);
            due(of + " KEEPS", x.told(0, 6), r[5]);
            due(of + " WORTH", x.told(0, 7), r[6]);
            due(of + " mark stays", x.told(0, 2), r[2]);
            x.frost(0);
            due(of + " day", x.days(1), r[4]);
            due(of + " mark behind it", x.told(0, 2), r[5]);
        }
        JugMemory x = new JugMemory();
        x.jug(0, 5, 0, 0);
        int[][] bad = {{-1, 0}, {1, 0}, {0, -1}, {0, 8}, {LOW, 0}, {HIGH, 0}, {0, LOW}, {0, HIGH}};
        for (int[] b : bad) {
            due("told bad", x.told(b[0], b[1]), BAD);
        }
    }

    private static void p3ToldByWant() {
        JugMemory x = new JugMemory();
        x.jug(0, 20, 0, 10);
        x.jug(2, 20, 0, 10);
        x.jug(5, 20, 0, 10);
        x.jug(3, 20, 0, 10);
        textOf(x, "want 7");
        due("jug by want 7", x.told(0, 5), 7);
        due("pail by want 7", x.told(1, 5), 8);
        due("thimble by want 7", x.told(2, 5), 20);
        due("cracked by want 7", x.told(3, 5), 6);
        due("cracked keeps", x.told(3, 6), 9);
        textOf(x, "want 0-5");
        due("jug by want below 0", x.told(0, 5), 0);
        due("pail by want below 0", x.told(1, 5), 1);
        due("jug keeps", x.told(0, 6), 1);
        textOf(x, "want 9999");
        due("jug by want above brim", x.told(0, 5), 10);
        x.set(1, 2, 20);
        due("pail by want above brim", x.told(1, 5), 20);
        textOf(x, "want b-h-n");
        x.heart(0, 4);
        x.set(0, 2, 20);
        due("jug by b-h-n", x.told(0, 5), 16);
        x.frost(0);
        x.days(1);
        x.gives(0, 7);
        x.set(0, 2, 20);
        due("jug by b-h-n a day on, by another hand", x.told(0, 5), 16);
        textOf(x, "want m/2");
        due("jug by m/2", x.told(0, 5), 10);
    }

    private static void p4As() {
        int[][] of = {{0}, {1, 0}, {2, 0}, {3, 1, 0}, {4, 2, 0}, {5, 0}};
        for (int kind = 0; kind < 6; kind++) {
            JugMemory x = new JugMemory();
            x.jug(kind, 20, 0, 10 + kind);
            for (int k = 0; k < 6; k++) {
                boolean is = false;
                for (int above : of[kind]) {
                    is |= above == k;
                }
                due("as(" + kind + ", " + k + ")", x.as(0, k), is ? 10 + kind : KIND);
            }
            due("as kind -1", x.as(0, -1), BAD);
            due("as kind 6", x.as(0, 6), BAD);
            due("as jug 1", x.as(1, 0), BAD);
            due("as jug -1", x.as(-1, 0), BAD);
        }
    }

    private static void p5Turns() {
        JugMemory x = new JugMemory();
        x.jug(0, 20, 0, 10);
        due("turns", x.turns(0, 4), 0);
        due("turns", x.turns(0, 4), 4);
        due("turns", x.turns(0, 5), 4);
        due("turned", x.told(0, 0), 5);
        due("mark stays", x.told(0, 2), 10);
        due("turns bad", x.turns(0, 6), BAD);
        due("turns bad", x.turns(0, -1), BAD);
        due("turns bad", x.turns(1, 0), BAD);
        due("turns bad", x.turns(-1, 0), BAD);
        due("still", x.told(0, 0), 5);
    }

    private static void p6Set() {
        JugMemory x = new JugMemory();
        x.jug(0, 20, 0, 10);
        due("set brim", x.set(0, 1, 15), 20);
        due("mark stays", x.told(0, 2), 10);
        due("set brim below mark", x.set(0, 1, 4), 15);
        due("mark is brim", x.told(0, 2), 4);
        due("set brim", x.set(0, 1, 99), 4);
        due("mark stays", x.told(0, 2), 4);
        due("set brim 100", x.set(0, 1, 100), BAD);
        due("set brim 1", x.set(0, 1, 1), 99);
        due("mark is brim", x.told(0, 2), 1);
        due("set brim", x.set(0, 1, 99), 1);
        due("set mark", x.set(0, 2, 4), 1);
        due("set brim 0", x.set(0, 1, 0), BAD);
        due("set mark", x.set(0, 2, 99), 4);
        due("set mark", x.set(0, 2, 0), 99);
        due("set mark", x.set(0, 2, -1), BAD);
        due("set mark", x.set(0, 2, 100), BAD);
        due("set fills", x.set(0, 4, 99), 0);
        due("set fills", x.set(0, 4, 100), BAD);
        due("set fills", x.set(0, 4, -1), BAD);
        due("set fills", x.set(0, 4, 0), 99);
        for (int what : new int[] {-1, 0, 3, 5, 6, 7, HIGH, LOW}) {
            due("set what " + what, x.set(0, what, 1), BAD);
        }
        due("set jug 1", x.set(1, 1, 1), BAD);
        due("set jug -1", x.set(-1, 1, 1), BAD);
    }

    private static void p7Gives() {
        JugMemory x = new JugMemory();
        x.jug(0, 20, 2, 10);
        due("gives", x.gives(0, 7), 2);
        due("gives", x.gives(0, 7), 7);
        due("gives bad", x.gives(0, 8), BAD);
        due("gives bad", x.gives(0, -1), BAD);
        due("gives bad", x.gives(1, 0), BAD);
        due("gives bad", x.gives(-1, 0), BAD);
        due("hand", x.told(0, 3), 7);
        due("had as it was", x.hand(7, 1), 0);
        due("sold as it was", x.town(1), 0);
    }

    private static void p8Heart() {
        JugMemory x = new JugMemory();
        due("heart", x.heart(7, 9), 3);
        due("heart", x.heart(7, 0), 9);
        due("heart", x.heart(7, 10), BAD);
        due("heart", x.heart(7, -1), BAD);
        due("heart", x.heart(8, 0), BAD);
        due("heart", x.heart(-1, 0), BAD);
        due("heart is", x.hand(7, 0), 0);
        due("others stay", x.hand(0, 0), 3);
    }

    private static void p9Hand() {
        JugMemory x = new JugMemory();
        for (int i = 0; i < 10; i++) {
            x.jug(5, 3, i % 3 == 0 ? 4 : 2, 0);
        }
        due("jugs of 4", x.hand(4, 2), 1 + 8 + 64 + 512);
        due("jugs of 2", x.hand(2, 2), 1023 - 585);
        due("jugs of 0", x.hand(0, 2), 0);
        x.frost(0);
        x.seed(seedFor(10, 0, 4, 0, 99));
        x.days(1);
        due("had of 4", x.hand(4, 1), 12);
        due("had of 2", x.hand(2, 1), 18);
        due("heart", x.hand(4, 0), 3);
        due("hand bad", x.hand(-1, 0), BAD);
        due("hand bad", x.hand(8, 0), BAD);
        due("hand bad", x.hand(0, -1), BAD);
        due("hand bad", x.hand(0, 3), BAD);
    }

    private static void p10Frost() {
        JugMemory x = new JugMemory();
        due("frost", x.frost(100), 5);
        due("frost", x.frost(101), BAD);
        due("frost", x.frost(-1), BAD);
        due("frost", x.frost(0), 100);
        due("frost is", x.count(2), 0);
    }

    private static void p11Deal() {
        JugMemory x = new JugMemory();
        int z = x.seed(77);
        due("deal bad", x.deal(0), BAD);
        due("deal bad", x.deal(11), BAD);
        due("deal bad", x.deal(-1), BAD);
        due("z was", z, 1);
        due("deal", x.deal(3), 3);
        z = 77;
        for (int i = 0; i < 3; i++) {
            z = stepped(z, 1);
            due("drawn kind", x.told(i, 0), (z >>> 8) % 6);
            z = stepped(z, 1);
            int brim = (z >>> 8) % 40 + 1;
            due("drawn brim", x.told(i, 1), brim);
            z = stepped(z, 1);
            due("drawn hand", x.told(i, 3), (z >>> 8) % 8);
            z = stepped(z, 1);
            due("drawn mark", x.told(i, 2), (z >>> 8) % (brim + 1));
            due("drawn fills", x.told(i, 4), 0);
        }
        due("z", x.count(9), z);
        due("deal as room is", x.deal(10), 7);
        due("no draws for others", x.count(9), stepped(77, 40));
        due("deal without room", x.deal(1), 0);
        due("no draws", x.count(9), stepped(77, 40));
    }

    private static void p12Seed() {
        JugMemory x = new JugMemory();
        due("seed", x.seed(LOW), 1);
        due("seed", x.seed(HIGH), LOW);
        due("seed", x.seed(0), HIGH);
        due("z", x.count(9), 0);
    }

    // ---- days

    private static void p13Days() {
        JugMemory x = new JugMemory();
        due("days bad", x.days(0), BAD);
        due("days bad", x.days(101), BAD);
        due("days bad", x.days(LOW), BAD);
        due("days of none", x.days(100), 0);
        due("a draw a day without jugs", x.count(9), stepped(1, 100));
        due("the day", x.count(1), 100);
        JugMemory y = new JugMemory();
        y.frost(0);
        y.heart(0, 9);
        y.jug(0, 20, 0, 10);
        y.seed(seedFor(1, 0, 0, 0, 99));
        int z = y.count(9);
        due("got", y.days(1), 10);
        due("three draws a day with jugs", y.count(9), stepped(z, 3));
        due("mark", y.told(0, 2), 13);
        due("fills", y.told(0, 4), 1);
        due("had", y.hand(0, 1), 10);
        y.seed(seedFor(1, 0, 0, 0, 99));
        due("got", y.days(1), 13);
        due("got of all", y.town(0), 23);
        due("had", y.hand(0, 1), 23);
        y.set(0, 4, 98);
        y.days(1);
        due("fills", y.told(0, 4), 99);
        y.days(1);
        due("fills at most", y.told(0, 4), 99);
    }

    private static void p13Sales() {
        JugMemory x = new JugMemory();
        x.frost(0);
        x.jug(5, 10, 1, 0);
        x.jug(5, 3, 2, 0);
        x.seed(seedFor(2, 0, 2, 0, 99));
        due("got", x.days(1), 13);
        due("sold", x.town(1), 1);
        due("the buyer has it, with what it was filled by then", x.told(0, 3), 2);
        due("the buyer paid all", x.hand(2, 1), 0);
        due("the seller got it", x.hand(1, 1), 13);
        x.seed(seedFor(2, 0, 3, 0, 99));
        x.days(1);
        due("who has less than worth buys none", x.town(1), 1);
        x.seed(seedFor(2, 0, 2, 0, 99));
        x.days(1);
        due("who has it buys none", x.town(1), 1);
        JugMemory y = new JugMemory();
        y.frost(0);
        y.jug(2, 7, 0, 7);
        y.seed(seedFor(1, 0, 5, 0, 99));
        y.days(1);
        due("sold for 0", y.town(1), 1);
        due("whose", y.told(0, 3), 5);
        JugMemory v = new JugMemory();
        v.frost(0);
        v.jug(5, 2, 0, 0);
        v.jug(2, 9, 0, 3);
        v.jug(5, 5, 1, 0);
        v.seed(seedFor(3, 1, 1, 0, 99));
        v.days(1);
        due("worth behind the filling", v.hand(0, 1), 2 + 4 + 5);
        due("worth behind the filling", v.hand(1, 1), 0);
    }

    private static void p13Frost() {
        JugMemory x = new JugMemory();
        x.jug(5, 10, 0, 0);
        x.jug(5, 10, 0, 0);
        x.jug(5, 1, 0, 0);
        x.jug(0, 9, 3, 4);
        x.frost(31);
        x.seed(seedFor(3 + 1, 3, 3, 30, 30));
        x.days(1);
        due("below frost", x.town(2), 1);
        due("of several the least", x.told(0, 1), 9);
        due("mark is brim at most", x.told(0, 2), 9);
        x.seed(seedFor(4, 3, 3, 31, 31));
        x.days(1);
        due("not below frost", x.town(2), 1);
        x.set(2, 4, 50);
        x.seed(seedFor(4, 3, 3, 0, 0));
        due("got of all four", x.days(1), 9 + 10 + 1 + 6);
        due("broken", x.town(2), 2);
        due("the one of brim 0 is gone", x.count(0), 3);
        due("those behind have numbers 1 less", x.told(2, 0), 0);
        due("its brim", x.told(2, 1), 9);
        due("its mark", x.told(2, 2), 7);
        due("its hand", x.told(2, 3), 3);
        due("its fills", x.told(2, 4), 3);
        due("gone", x.told(3, 0), BAD);
        x.frost(0);
        x.seed(seedFor(3, 2, 3, 0, 0));
        x.days(1);
        due("never", x.town(2), 2);
        JugMemory y = new JugMemory();
        y.frost(100);
        y.days(1);
        due("no jugs", y.town(2), 0);
        y.jug(0, 9, 0, 3);
        y.days(1);
        due("mark below brim stays", y.told(0, 2), 4);
        due("brim", y.told(0, 1), 8);
        y.jug(5, 2, 0, 0);
        y.set(1, 4, 9);
        y.days(1);
        due("the one with most fills, down to 1", y.told(1, 1), 1);
        due("the other one stays", y.told(0, 1), 8);
        y.days(1);
        due("gone at 0", y.count(0), 1);
        due("a new jug where one was", y.jug(0, 1, 0, 0), 1);
        due("has no fills", y.told(1, 4), 0);
    }

    private static void p13Bounds() {
        JugMemory x = new JugMemory();
        x.frost(0);
        for (int i = 0; i < 10; i++) {
            x.jug(5, 99, 6, 0);
        }
        // z is put so that no jug is drawn for another hand: it stays with hand 6
        for (int i = 0; i < 11; i++) {
            x.seed(seedFor(10, 0, 6, 0, 99));
            due("got", x.days(1), 990);
        }
        due("had at most", x.hand(6, 1), 9999);
        due("got is not bounded so", x.town(0), 10890);
        x.gives(1, 5);
        x.seed(seedFor(10, 1, 5, 0, 99));
        x.days(1);
        x.gives(1, 6);
        x.seed(seedFor(10, 1, 5, 0, 99));
        x.days(1);
        due("sold", x.town(1), 1);
        due("more is lost", x.hand(6, 1), 9999);
        due("paid", x.hand(5, 1), 99 - 3);
        JugMemory y = new JugMemory();
        for (int i = 0; i < 99; i++) {
            y.days(100);
        }
        y.days(98);
        due("the day", y.count(1), 9998);
        y.frost(0);
        y.jug(5, 4, 0, 0);
        due("behind, without that bound", y.behind(5, 0), 20);
        due("days up to 9999", y.days(5), 4);
        due("the day", y.count(1), 9999);
        int z = y.count(9);
        due("no days beyond", y.days(100), 0);
        due("no draws beyond", y.count(9), z);
        due("behind, without that bound", y.behind(2, 0), 12);
        due("fills", y.told(0, 4), 1);
        y.turns(0, 0);
        textOf(y, "want n/3333");
        due("n beyond 9999 in thought", y.behind(1, 0), 4 + 3);
        y.heart(0, 9);
        textOf(y, "want (n>9999)*4");
        due("n beyond 9999 in thought", y.hearts(1, 2, 1), 4 + 0 + 3);
        y.keep();
        due("check of none", y.check(3), 0);
        y.tell(0);
        due("check of none, one too many", y.check(3), 1);
    }

    private static void p14Town() {
        JugMemory x = new JugMemory();
        due("town bad", x.town(-1), BAD);
        due("town bad", x.town(6), BAD);
        due("richest of none", x.town(4), 0);
        due("best of none", x.town(5), NONE);
        due("marks of none", x.town(3), 0);
        x.jug(5, 9, 3, 0);
        x.jug(0, 9, 5, 3);
        x.jug(0, 9, 5, 2);
        due("best, of several the least", x.town(5), 0);
        x.set(2, 2, 4);
        due("best", x.town(5), 2);
        due("marks", x.town(3), 7);
        x.turns(1, 1);
        due("best is an heirloom", x.town(5), 1);
        x.frost(0);
        x.seed(seedFor(3, 0, 3, 0, 99));
        due("days", x.days(1), 16);
        due("got", x.town(0), 16);
        due("richest", x.town(4), 3);
        x.gives(1, 2);
        JugMemory y = new JugMemory();
        y.frost(0);
        y.jug(5, 9, 6, 0);
        y.jug(5, 9, 4, 0);
        y.seed(seedFor(2, 0, 6, 0, 99));
        y.days(1);
        due("richest, of several the least", y.town(4), 4);
        y.gives(1, 1);
        y.set(1, 1, 30);
        y.seed(seedFor(2, 0, 6, 0, 99));
        y.days(1);
        due("richest is 1", y.town(4), 1);
        JugMemory one = new JugMemory();
        one.jug(0, 9, 0, 0);
        due("best of one", one.town(5), 0);
        due("sold", y.town(1), 0);
        due("broken", y.town(2), 0);
    }

    private static void p15Measure() {
        JugMemory x = new JugMemory();
        x.jug(0, 3, 0, 0);
        x.jug(4, 5, 0, 2);
        x.jug(0, 99, 0, 0);
        x.jug(0, 98, 0, 0);
        x.jug(0, 5, 0, 0);
        int[] due = {0, 4, 2, 1, 6, 1, NONE};
        for (int v = 0; v < due.length; v++) {
            due("3 and 5 for " + v, x.measure(0, 1, v), due[v]);
            due("5 and 3 for " + v, x.measure(1, 0, v), due[v]);
        }
        due("99 and 98 for 1", x.measure(2, 3, 1), 2);
        due("5 and 5 for 5", x.measure(1, 4, 5), 1);
        due("5 and 5 for 1", x.measure(1, 4, 1), NONE);
        due("99", x.measure(0, 2, 99), 1);
        due("measure bad", x.measure(0, 0, 0), BAD);
        due("measure bad", x.measure(0, 5, 0), BAD);
        due("measure bad", x.measure(5, 0, 0), BAD);
        due("measure bad", x.measure(-1, 0, 0), BAD);
        due("measure bad", x.measure(0, -1, 0), BAD);
        due("measure bad", x.measure(0, 1, -1), BAD);
        due("measure bad", x.measure(0, 1, 100), BAD);
    }

    // ---- what will be

    private static JugMemory someTown(int seed) {
        JugMemory x = new JugMemory();
        x.seed(seed);
        x.deal(8);
        x.frost(30);
        for (int h = 0; h < 8; h++) {
            x.heart(h, (h * 3 + seed) % 10);
        }
        return x;
    }

    private static void p16Behind() {
        JugMemory x = someTown(11);
        int[] counted = {3, 4, 5, 0};
        for (int n = 0; n <= 100; n += 20) {
            JugMemory y = someTown(11);
            if (n > 0) {
                y.days(n);
            }
            for (int what = 0; what < 4; what++) {
                due("behind(" + n + ", " + what + ")", x.behind(n, what), y.count(counted[what]));
            }
            for (int h = 0; h < 8; h++) {
                due("behind(" + n + ", " + (4 + h) + ")", x.behind(n, 4 + h), y.hand(h, 1));
            }
        }
        due("nothing changed", x.count(1), 0);
        due("nothing changed", x.count(9), someTown(11).count(9));
        due("nothing changed", x.town(3), someTown(11).town(3));
        due("behind bad", x.behind(-1, 0), BAD);
        due("behind bad", x.behind(101, 0), BAD);
        due("behind bad", x.behind(0, -1), BAD);
        due("behind bad", x.behind(0, 12), BAD);
    }

    private static void p17Enough() {
        JugMemory x = new JugMemory();
        x.frost(0);
        x.jug(5, 9, 2, 0);
        textOf(x, "want 0");
        int first = NONE;
        int most = 0;
        for (int n = 0; n <= 100; n++) {
            int had = x.behind(n, 6);
            if (had > most) {
                due("enough for " + had, x.enough(2, had), n);
                due("enough for 1 more than before", x.enough(2, most + 1), n);
                most = had;
                first = n;
            }
        }
        due("some were more", first == NONE ? 1 : 0, 0);
        due("enough for 0", x.enough(3, 0), 0);
        due("enough for too much", x.enough(2, 9999), NONE);
        due("nothing changed", x.count(1), 0);
        due("enough bad", x.enough(-1, 0), BAD);
        due("enough bad", x.enough(8, 0), BAD);
        due("enough bad", x.enough(0, -1), BAD);
        due("enough bad", x.enough(0, 10000), BAD);
        // behind 199 days there is one that has more than ever, a day later
        for (int h = 0; h < 8; h++) {
            int[] had = hadOfThimbles(h);
            int before = 0;
            for (int n = 0; n < 200; n++) {
                before = Math.max(before, had[n]);
            }
            if (had[200] > before) {
                due("enough on day 200", eightThimbles().enough(h, had[200]), 200);
                due("enough a day too late", eightThimbles().enough(h, had[201]), had[201] > had[200] ? NONE : 200);
            }
            due("enough not by then", eightThimbles().enough(h, Math.max(before, had[200]) + 1), NONE);
        }
    }

    private static JugMemory eightThimbles() {
        JugMemory x = new JugMemory();
        x.frost(0);
        for (int i = 0; i < 8; i++) {
            x.jug(5, 1, i, 0);
        }
        return x;
    }

    /** What a hand has behind 0 .. 201 days of eight thimbles. */
    private static int[] hadOfThimbles(int hand) {
        JugMemory x = eightThimbles();
        int[] had = new int[202];
        for (int n = 0; n <= 201; n++) {
            had[n] = x.hand(hand, 1);
            x.days(1);
        }
        return had;
    }

    private static void p18Heir() {
        for (int seed = 0; seed < 6; seed++) {
            for (int n : new int[] {1, 7, 60}) {
                int best = -1;
                int most = -1;
                for (int h = 0; h < 8; h++) {
                    JugMemory y = someTown(seed);
                    y.gives(2, h);
                    y.days(n);
                    if (y.town(0) > most) {
                        most = y.town(0);
                        best = h;
                    }
                }
                JugMemory x = someTown(seed);
                int had = x.told(2, 3);
                due("heir", x.heir(2, n, 0), best);
                due("heir's got", x.heir(2, n, 1), most);
                due("nothing changed", x.told(2, 3), had);
                due("nothing changed", x.count(1), 0);
            }
        }
        JugMemory x = someTown(1);
        int[][] bad = {{-1, 1, 0}, {8, 1, 0}, {0, 0, 0}, {0, 61, 0}, {0, 1, -1}, {0, 1, 2}};
        for (int[] b : bad) {
            due("heir bad", x.heir(b[0], b[1], b[2]), BAD);
        }
    }

    private static void p19Hearts() {
        for (int seed = 0; seed < 6; seed++) {
            for (int n : new int[] {1, 7, 60}) {
                int best = -1;
                int most = -1;
                for (int v = 0; v < 10; v++) {
                    JugMemory y = someTown(seed);
                    y.heart(y.told(0, 3), v);
                    y.days(n);
                    if (y.town(0) > most) {
                        most = y.town(0);
                        best = v;
                    }
                }
                JugMemory x = someTown(seed);
                int hand = x.told(0, 3);
                int heart = x.hand(hand, 0);
                due("hearts", x.hearts(hand, n, 0), best);
                due("hearts' got", x.hearts(hand, n, 1), most);
                due("nothing changed", x.hand(hand, 0), heart);
            }
        }
        JugMemory y = new JugMemory();
        y.jug(0, 99, 0, 0);
        y.frost(0);
        due("hearts: 9 is best", y.hearts(0, 2, 1) > 0 ? y.hearts(0, 2, 0) : -1, 9);
        JugMemory x = someTown(1);
        int[][] bad = {{-1, 1, 0}, {8, 1, 0}, {0, 0, 0}, {0, 61, 0}, {0, 1, -1}, {0, 1, 2}};
        for (int[] b : bad) {
            due("hearts bad", x.hearts(b[0], b[1], b[2]), BAD);
        }
    }

    private static void p20Becomes() {
        for (int seed = 0; seed < 6; seed++) {
            for (int n : new int[] {1, 7, 60}) {
                int best = -1;
                int most = -1;
                for (int k = 0; k < 6; k++) {
                    JugMemory y = someTown(seed);
                    y.turns(3, k);
                    y.days(n);
                    if (y.town(0) > most) {
                        most = y.town(0);
                        best = k;
                    }
                }
                JugMemory x = someTown(seed);
                int kind = x.told(3, 0);
                due("becomes", x.becomes(3, n, 0), best);
                due("becomes' got", x.becomes(3, n, 1), most);
                due("nothing changed", x.told(3, 0), kind);
            }
        }
        JugMemory full = new JugMemory();
        full.frost(0);
        full.jug(4, 10, 0, 10);
        due("of several the least", full.becomes(0, 3, 0), 0);
        JugMemory x = someTown(1);
        int[][] bad = {{-1, 1, 0}, {8, 1, 0}, {0, 0, 0}, {0, 61, 0}, {0, 1, -1}, {0, 1, 2}};
        for (int[] b : bad) {
            due("becomes bad", x.becomes(b[0], b[1], b[2]), BAD);
        }
    }

    private static void p21Like() {
        JugMemory x = new JugMemory();
        due("like bad", x.like(-1, 0), BAD);
        due("like bad", x.like(4, 0), BAD);
        due("like bad", x.like(0, 2), BAD);
        due("like bad", x.like(0, -1), BAD);
        due("like of missing", x.like(0, 0), NOTHING);
        x.sheet(0, 1, 3);
        due("like of no jugs", x.like(0, 0), NONE);
        x.frost(0);
        x.jug(0, 20, 0, 10);
        x.jug(1, 20, 0, 10);
        x.jug(0, 20, 0, 5);
        x.mark(0, 0, 5);
        x.mark(0, 1, 6);
        x.mark(0, 2, 8);
        due("like", x.like(0, 0), 2);
        due("its differences", x.like(0, 1), 1);
        x.mark(0, 2, NONE);
        due("no number does not count", x.like(0, 1), 0);
        x.mark(0, 0, -99999);
        due("signs left out", x.like(0, 1), 99999 + 5);
        x.sheet(1, 0, 0);
        due("like of no places: the least", x.like(1, 0), 0);
        due("its differences", x.like(1, 1), 0);
        due("nothing changed", x.count(1), 0);
        JugMemory y = new JugMemory();
        y.frost(100);
        y.jug(5, 1, 0, 1);
        y.jug(5, 30, 1, 30);
        y.sheet(0, 0, 3);
        y.mark(0, 0, 1);
        y.mark(0, 1, 30);
        y.mark(0, 2, 29);
        due("by its number", y.like(0, 0), 0);
        due("the first is the second then", y.like(0, 1), 0);
        y.mark(0, 0, 30);
        y.mark(0, 1, 0);
        y.mark(0, 2, 0);
        due("0 if there are fewer", y.like(0, 0), 1);
        due("0 if there are fewer", y.like(0, 1), 0);
    }

    private static void p22Fee() {
        JugMemory x = new JugMemory();
        due("fee without", x.fee(), 0);
        x.frost(0);
        x.jug(5, 10, 1, 0);
        x.jug(5, 3, 2, 0);
        x.seed(seedFor(2, 0, 2, 0, 99));
        x.days(1);
        due("fee without", x.fee(), 13);
        due("text", textOf(x, "fee g*100+s"), 0);
        due("fee", x.fee(), 1301);
        due("text", textOf(x, "fee 0-g"), 1);
        due("fee is not held", x.fee(), -13);
    }

    private static void p23Fine() {
        JugMemory x = new JugMemory();
        due("fine bad", x.fine(0), BAD);
        x.jug(0, 20, 0, 7);
        x.jug(1, 30, 0, 8);
        due("fine without", x.fine(1), 8);
        due("text", textOf(x, "fine m*100-b"), 0);
        due("fine", x.fine(0), 680);
        due("fine", x.fine(1), 770);
        due("fine bad", x.fine(-1), BAD);
        due("fine bad", x.fine(2), BAD);
        due("fine is no want", x.told(0, 5), 7);
    }

    // ---- texts

    private static void p24Feed() {
        JugMemory x = new JugMemory();
        for (int i = 1; i <= 8; i++) {
            due("feed", x.feed(-1, 0, HIGH), 12 * i);
        }
        due("feed full", x.feed(0, 0, 0), FULL);
        due("bytes", x.count(8), 96);
        x.trim(85);
        due("feed full", x.feed(0, 0, 0), FULL);
        due("bytes", x.count(8), 85);
        x.trim(84);
        due("feed", x.feed(0, 0, 0), 96);
        JugMemory y = new JugMemory();
        // "fee " "12+3" "    "
        due("feed", y.feed(0x66656520, 0x31322B33, 0x20202020), 12);
        due("highest first", y.text(), 0);
        due("highest first", y.fee(), 15);
    }

    private static void p25Trim() {
        JugMemory x = new JugMemory();
        due("trim", x.trim(0), 0);
        due("trim bad", x.trim(1), BAD);
        due("trim bad", x.trim(-1), BAD);
        x.feed(1, 2, 3);
        due("trim bad", x.trim(13), BAD);
        due("trim", x.trim(12), 12);
        due("trim", x.trim(5), 5);
        due("trim bad", x.trim(6), BAD);
        due("bytes", x.count(8), 5);
        onTape(x, "fee 1234");
        x.trim(6);
        due("text", x.text(), 0);
        due("fee", x.fee(), 12);
    }

    private static void p26Text() {
        JugMemory x = new JugMemory();
        due("an empty tape", x.text(), -100);
        for (int i = 0; i < 14; i++) {
            due("text", textOf(x, "fee " + i), i);
            due("used up", x.count(8), 0);
            due("counts", x.fee(), i);
        }
        due("text full", textOf(x, "fee 99"), FULL);
        due("used up", x.count(8), 0);
        due("the last counts", x.fee(), 13);
        due("a fault ahead of full", textOf(x, "fee 99 9"), -107);
        due("used up", x.count(8), 0);
        due("texts", x.count(6), 14);
        JugMemory y = new JugMemory();
        due("fault", textOf(y, "fee x"), -104);
        due("used up by a fault", y.count(8), 0);
        due("no text", y.count(6), 0);
        due("a text behind a fault", textOf(y, "fee 1"), 0);
        due("fault", textOf(y, "fee 12345"), -104);
        due("a text behind a fault", textOf(y, "fee 1"), 1);
    }

    private static void p26Faults() {
        String[] right = {"fee 1", "  fee  1  ", "fee(1)", "fee!1", "fee g", "fee s", "want m", "want b", "want h", "want n",
            "fine m", "fine b", "fee 0000", "fee 9999", "fee ((((((((1))))))))", "fee !!!!!!!!1",
            "fee ((((((((1))))))))+((((((((1))))))))", "fee !!!!!!!!1&!!!!!!!!1", "fee !(!(!(!(!(!(!(!(1))))))))",
            "fee 1<2&3=4|5>6", "fee (1<2)<3", "fee 1+(2<3)", "fee g+s*g/s-1", "fee( 1 )", "fee 1 < 2", "want m+h/2-n",
            "fee !(1)+!(1)+!(1)+!(1)+!(1)+!(1)+!(1)+!(1)+!(1)+!(1)",
            "fee 1+1+1+1+1+1+1+1+1+1+1+1+1+1+1+1+1+1+1+1+1+1+1+1+1+1+1+1+1+1+1+1+1+1+1+1+1+1+1+1+1+1+1+1+1+1"};
        for (String text : right) {
            due("text " + text, textOf(new JugMemory(), text), 0);
        }
        // a text, with the place of its fault
        Object[][] faults = {{"", 0}, {"   ", 3}, {"fee", 3}, {"fee   ", 6}, {"fe 1", 0}, {" feee 1", 1}, {"Fee 1", 0}, {"12 1", 0},
            {"fee1", 3}, {"fee12345", 3}, {"feeg", 0}, {"feez", 0}, {"afee 1", 0}, {"gee 1", 0}, {"fey 1", 0}, {"fin 1", 0}, {"fee 12345", 4}, {"fee 1+00000", 6}, {"fee 12 3", 7}, {"fee 1g", 5}, {"fee g1", 5},
            {"fee gs", 4}, {"fee g s", 6}, {"fee m", 4}, {"fee b", 4}, {"fee h", 4}, {"want g", 5}, {"want s", 5}, {"fine h", 5},
            {"fine n", 5}, {"fine g", 5}, {"fee 1+", 6}, {"fee 1 + ", 8}, {"fee +1", 4}, {"fee -1", 4}, {"fee 1++1", 6}, {"fee 1<2<3", 7},
            {"fee 1<2=3", 7}, {"fee (1<2>3)", 8}, {"fee 1<=2", 6}, {"fee (1", 6}, {"fee (1 ", 7}, {"fee 1)", 5}, {"fee ()", 5}, {"fee (1))", 7},
            {"fee !", 5}, {"fee !!!!!!!!!1", 12}, {"fee (((((((((1)))))))))", 12}, {"fee !(!(!(!(!(!(!(!(!1))))))))", 20},
            {"fee (!(!(!(!(!(!(!(!(1)))))))))", 20}, {"fee 1!", 5}, {"fee 1!=2", 5}, {"fee 1(2)", 5}, {"fee (1)2", 7}, {"fee (1)g", 7},
            {"fee\t1", 3}, {"fee 1\t", 5}, {"fee 1\u00e9", 5}, {"fee \u0000", 4}, {"fee 1\u0000", 5}, {"fee 1\u0000 2", 5}, {"\u0000fee 1", 0}, {"fee 1\u0001", 5}, {"fee 1\u00ff", 5}, {"fee (1\u00fe", 6}, {"fee 1 want 2", 6}, {"fee fee", 4}, {"fee 1%2", 5},
            {"fee 1&&2", 6}, {"fee 1|", 6}, {"want want", 5}, {"fee G", 4}, {"fee 1_", 5}, {"fee 1|2&", 8}, {"fee {1}", 4}};
        for (Object[] f : faults) {
            due("fault of " + f[0], textOf(new JugMemory(), (String) f[0]), -100 - (Integer) f[1]);
        }
        StringBuilder all = new StringBuilder("fee (1");
        while (all.length() < 95) {
            all.append(" ");
        }
        due("96 bytes", textOf(new JugMemory(), all + ")"), 0);
        due("96 bytes, too soon", textOf(new JugMemory(), all + " "), -196);
    }

    private static void p26Values() {
        Object[][] values = {{"1+2*3", 7}, {"(1+2)*3", 9}, {"7-2-1", 4}, {"100/7/2", 7}, {"100/7*2", 28}, {"2*7/4", 3}, {"0-7/2", -3}, {"(0-7)/2", -3},
            {"5/0", 0}, {"0/0", 0}, {"1<2", 1}, {"2<2", 0}, {"2=2", 1}, {"3>2", 1}, {"2>3", 0}, {"1+1=2", 1}, {"1<2+5", 1},
            {"5&3", 1}, {"5&0", 0}, {"0&0", 0}, {"0|0", 0}, {"0|7", 1}, {"7|0", 1}, {"7|7", 1}, {"!0", 1}, {"!5", 0}, {"!!5", 1}, {"!0+1", 2}, {"!(0+1)", 0},
            {"1|0&0", 1}, {"(1|0)&0", 0}, {"1=1&2=3", 0}, {"1&2=2", 1}, {"(1&2)=2", 0}, {"9999*9999*9999", 9999 * 9999 * 9999}, {"0-9999*9999*22", -9999 * 9999 * 22},
            {"1-(2-3)", 2}, {"!1-1", -1}, {"2*!0*3", 6}, {"0010", 10}, {"1=(2=2)", 1}, {"0-1&1", 1}, {"0-1", -1}, {"8/(0-1)", -8},
            {"(0-32768*(8192*8))/(0-1)", LOW}, {"g", 0}, {"s+1", 1}};
        for (Object[] v : values) {
            JugMemory x = new JugMemory();
            String text = ((String) v[0]).replace("32768", "(4096*8)");
            due("text " + text, textOf(x, "fee " + text), 0);
            due("value of " + text, x.fee(), (Integer) v[1]);
        }
    }

    private static void p27TextTold() {
        JugMemory x = new JugMemory();
        due("textTold bad", x.textTold(0, 0), BAD);
        textOf(x, "fine m+b*3");
        textOf(x, "want !(1)");
        textOf(x, "fee g+g+g+0");
        due("key", x.textTold(0, 0), 2);
        due("key", x.textTold(1, 0), 0);
        due("key", x.textTold(2, 0), 1);
        due("numbers and names", x.textTold(0, 1), 3);
        due("numbers and names", x.textTold(1, 1), 1);
        due("numbers and names", x.textTold(2, 1), 4);
        due("textTold bad", x.textTold(3, 0), BAD);
        due("textTold bad", x.textTold(-1, 0), BAD);
        due("textTold bad", x.textTold(0, 2), BAD);
        due("textTold bad", x.textTold(0, -1), BAD);
    }

    private static void p28Why() {
        JugMemory x = new JugMemory();
        due("why none", x.why(0), NONE);
        textOf(x, "want m");
        textOf(x, "fine m");
        textOf(x, "want b");
        textOf(x, "want x");
        due("why", x.why(0), 2);
        due("why", x.why(1), NONE);
        due("why", x.why(2), 1);
        due("why bad", x.why(3), BAD);
        due("why bad", x.why(-1), BAD);
    }

    // ---- sheets, slots

    private static void p29Sheet() {
        JugMemory x = new JugMemory();
        due("sheet", x.sheet(3, 1, 24), 24);
        due("sheet", x.sheet(0, 0, 0), 0);
        due("sheet bad", x.sheet(4, 0, 1), BAD);
        due("sheet bad", x.sheet(-1, 0, 1), BAD);
        due("sheet bad", x.sheet(0, 2, 1), BAD);
        due("sheet bad", x.sheet(0, -2, 1), BAD);
        due("sheet bad", x.sheet(0, 0, 25), BAD);
        due("sheet size", x.sheet(0, 0, -1), SIZE);
        due("sheet size", x.sheet(0, 1, LOW), SIZE);
        due("bad ahead of size", x.sheet(0, 2, -1), BAD);
        due("bad ahead of size", x.sheet(4, 0, -1), BAD);
        due("place of none", x.mark(0, 0, 1), INDEX);
        x.mark(3, 23, 5);
        due("sheet anew", x.sheet(3, 1, 24), 24);
        x.lay(0, 2, 3);
        due("all 0", x.item(0, 23), 0);
        due("missing, n any", x.sheet(3, -1, 99), 0);
        due("missing, n any", x.sheet(3, -1, -5), 0);
        due("missing", x.mark(3, 0, 0), NOTHING);
    }

    private static void p30Mark() {
        JugMemory x = new JugMemory();
        due("mark bad", x.mark(-1, 0, 0), BAD);
        due("mark bad", x.mark(4, 0, 0), BAD);
        due("mark nothing", x.mark(0, -1, 0), NOTHING);
        x.sheet(0, 0, 2);
        x.sheet(1, 1, 2);
        due("mark index", x.mark(0, 2, NONE), INDEX);
        due("mark index", x.mark(0, -1, 0), INDEX);
        due("mark index", x.mark(1, 2, 100000), INDEX);
        due("mark kind", x.mark(0, 0, NONE), KIND);
        int[][] shorts = {{32767, 32767}, {32768, -32768}, {65535, -1}, {65536, 0}, {-32769, 32767}, {LOW, 0}, {HIGH, -1}, {BAD, (short) BAD}};
        for (int[] s : shorts) {
            due("mark", x.mark(0, 1, s[0]), 1);
            x.lay(0, 2, 0);
            due("a short", x.item(0, 1), s[1]);
        }
        due("mark", x.mark(1, 1, 99999), 1);
        due("mark", x.mark(1, 0, -99999), 1);
        due("mark bad", x.mark(1, 0, 100000), BAD);
        due("mark bad", x.mark(1, 0, -100000), BAD);
        due("mark bad", x.mark(1, 0, NO), BAD);
        x.lay(0, 2, 1);
        due("a float", x.item(0, 0), -99999);
        due("a float", x.item(0, 1), 99999);
        due("mark no number", x.mark(1, 0, NONE), 1);
        x.lay(0, 2, 1);
        due("no number", x.item(0, 0), KIND);
    }

    private static void p31Pour() {
        JugMemory x = new JugMemory();
        due("pour bad", x.pour(-1), BAD);
        due("pour bad", x.pour(4), BAD);
        due("pour nothing", x.pour(0), NOTHING);
        x.sheet(0, 1, 4);
        due("pour on none", x.pour(0), 0);
        for (int i = 0; i < 5; i++) {
            x.jug(0, 20, 0, 10);
        }
        x.mark(0, 0, 10);
        x.mark(0, 1, -4);
        x.mark(0, 2, 21);
        x.mark(0, 3, NONE);
        due("pour", x.pour(0), 2);
        int[] marks = {10, 0, 20, 10, 10};
        for (int i = 0; i < 5; i++) {
            due("poured", x.told(i, 2), marks[i]);
        }
        due("pour again", x.pour(0), 0);
        x.sheet(1, 0, 24);
        due("pour zeros", x.pour(1), 4);
    }

    private static void p32Reads() {
        JugMemory x = new JugMemory();
        due("reads bad", x.reads(-1), BAD);
        due("reads bad", x.reads(4), BAD);
        due("reads nothing", x.reads(0), NOTHING);
        x.sheet(0, 1, 4);
        due("no jug: not", x.reads(0), 0);
        x.jug(0, 20, 7, 10);
        x.jug(0, 20, 5, 10);
        due("reads", x.reads(0), 0);
        x.mark(0, 0, 7);
        due("reads", x.reads(0), 1);
        x.mark(0, 1, 5);
        due("no jug: not, though 0", x.reads(0), 2);
        x.mark(0, 2, NONE);
        due("reads", x.reads(0), 3);
        x.mark(0, 3, NONE);
        due("reads none", x.reads(0), NONE);
        x.mark(0, 0, NONE);
        due("numbers alone", x.reads(0), NONE);
        x.sheet(1, 0, 0);
        due("no places", x.reads(1), NONE);
        x.sheet(1, 0, 1);
        x.mark(1, 0, 7);
        due("fewer places than jugs", x.reads(1), NONE);
    }

    private static void p33Copy() {
        JugMemory x = new JugMemory();
        x.sheet(0, 0, 5);
        x.sheet(1, 0, 3);
        x.sheet(2, 1, 3);
        for (int i = 0; i < 5; i++) {
            x.mark(0, i, i + 1);
        }
        due("copy bad", x.copy(-1, 0, 0, 0, 0), BAD);
        due("copy bad", x.copy(4, 0, 0, 0, 0), BAD);
        due("copy bad", x.copy(0, 0, -1, 0, 0), BAD);
        due("copy bad", x.copy(0, 0, 4, 0, 0), BAD);
        due("copy nothing", x.copy(3, 0, 0, 0, 0), NOTHING);
        due("copy nothing", x.copy(0, 9, 3, 0, 0), NOTHING);
        due("copy kind", x.copy(0, 9, 2, 9, 1), KIND);
        int[][] index = {{-1, 0, 1}, {0, -1, 1}, {5, 0, 1}, {0, 3, 1}, {3, 0, 3}, {0, 1, 3}, {0, 0, -1}, {HIGH, 0, 1}, {0, HIGH, HIGH}, {1, 1, HIGH}, {6, 0, 0}, {0, 4, 0}};
        for (int[] i : index) {
            due("copy index", x.copy(0, i[0], 1, i[1], i[2]), INDEX);
        }
        due("copy none", x.copy(0, 5, 1, 3, 0), 0);
        due("copy", x.copy(0, 2, 1, 0, 3), 3);
        x.lay(0, 2, 1);
        for (int i = 0; i < 3; i++) {
            due("copied", x.item(0, i), i + 3);
        }
        due("copy within", x.copy(0, 0, 0, 1, 4), 4);
        x.lay(0, 2, 0);
        int[] within = {1, 1, 2, 3, 4};
        for (int i = 0; i < 5; i++) {
            due("as they were", x.item(0, i), within[i]);
        }
        due("copy within", x.copy(0, 2, 0, 0, 3), 3);
        x.lay(0, 2, 0);
        int[] down = {2, 3, 4, 3, 4};
        for (int i = 0; i < 5; i++) {
            due("as they were", x.item(0, i), down[i]);
        }
        x.mark(2, 0, NONE);
        due("copy no number", x.copy(2, 0, 2, 2, 1), 1);
        x.lay(0, 2, 2);
        due("no number copied", x.item(0, 2), KIND);
    }

    private static void p34Lay() {
        JugMemory x = new JugMemory();
        x.jug(1, 20, 0, 10);
        x.sheet(0, 0, 2);
        due("lay bad", x.lay(-1, 0, 0), BAD);
        due("lay bad", x.lay(5, 0, 0), BAD);
        due("lay bad", x.lay(0, -1, 0), BAD);
        due("lay bad", x.lay(0, 4, 0), BAD);
        due("lay bad", x.lay(0, 1, 1), BAD);
        due("lay bad", x.lay(0, 1, -1), BAD);
        due("lay bad", x.lay(0, 2, 4), BAD);
        due("lay bad", x.lay(0, 2, -1), BAD);
        due("lay nothing", x.lay(0, 2, 1), NOTHING);
        due("lay", x.lay(0, 0, HIGH), 0);
        due("lay", x.lay(0, 1, 0), 0);
        due("lay", x.lay(0, 2, 0), 1);
        due("lay", x.lay(0, 3, LOW), 2);
        due("refused changes nothing", x.lay(0, 2, 3), NOTHING);
        due("lay", x.lay(0, 3, 8), 3);
        due("lay", x.lay(0, 0, 0), 3);
        due("lay", x.lay(4, 2, 0), 0);
        x.mark(0, 0, 77);
        due("as it was then", x.item(4, 0), 0);
        x.sheet(0, -1, 0);
        due("a row of its own", x.item(4, 1), 0);
    }

    private static void p35Ask() {
        JugMemory x = new JugMemory();
        x.jug(3, 20, 0, 10);
        due("ask bad", x.ask(-1, 0), BAD);
        due("ask bad", x.ask(5, 0), BAD);
        due("ask bad", x.ask(0, -1), BAD);
        due("ask bad", x.ask(0, 6), BAD);
        due("ask nothing", x.ask(0, 0), NOTHING);
        x.lay(0, 3, 5);
        due("ask a number", x.ask(0, 0), KIND);
        x.sheet(0, 0, 2);
        x.lay(0, 2, 0);
        due("ask a sheet", x.ask(0, 0), KIND);
        x.lay(0, 1, 0);
        int[] worth = {25, 25, KIND, 25, KIND, KIND};
        for (int k = 0; k < 6; k++) {
            due("ask(0, " + k + ")", x.ask(0, k), worth[k]);
        }
        x.turns(0, 5);
        x.set(0, 1, 2);
        due("for good", x.ask(0, 3), 25);
        x.lay(1, 1, 0);
        due("a thimble", x.ask(1, 5), 3);
    }

    private static void p36Item() {
        JugMemory x = new JugMemory();
        x.jug(3, 20, 0, 10);
        x.sheet(0, 1, 2);
        x.mark(0, 1, NONE);
        due("item bad", x.item(-1, 0), BAD);
        due("item bad", x.item(5, 0), BAD);
        due("item nothing", x.item(0, 9), NOTHING);
        x.lay(0, 1, 0);
        due("item of a jug", x.item(0, 9), KIND);
        x.lay(0, 3, 0);
        due("item of a number", x.item(0, 0), KIND);
        x.lay(0, 2, 0);
        due("item index", x.item(0, -1), INDEX);
        due("item index", x.item(0, 2), INDEX);
        due("item no number", x.item(0, 1), KIND);
        due("item", x.item(0, 0), 0);
    }

    private static void p37Rest() {
        JugMemory x = new JugMemory();
        x.jug(3, 20, 0, 10);
        x.sheet(0, 0, 2);
        due("rest bad", x.rest(-1, 0), BAD);
        due("rest bad", x.rest(5, 0), BAD);
        due("rest nothing", x.rest(4, 0), NOTHING);
        x.lay(4, 1, 0);
        due("rest of a jug", x.rest(4, 0), KIND);
        x.lay(4, 2, 0);
        due("rest of a sheet", x.rest(4, 0), KIND);
        int[][] rests = {{7, 3, 1}, {-7, 3, -1}, {7, -3, 1}, {LOW, -1, 0}, {LOW, HIGH, -1}, {0, 5, 0}};
        for (int[] r : rests) {
            x.lay(4, 3, r[0]);
            due("rest of " + r[0] + " by " + r[1], x.rest(4, r[1]), r[2]);
            due("rest by 0", x.rest(4, 0), NO);
        }
    }

    // ---- rows, images

    private static void p38Tell() {
        JugMemory x = new JugMemory();
        for (int i = 1; i <= 60; i++) {
            due("tell", x.tell(-i), i);
        }
        due("tell full", x.tell(0), FULL);
        due("they wait", x.count(7), 60);
    }

    private static void p39Check() {
        JugMemory x = someTown(5);
        x.tell(1);
        due("check bad ahead of no", x.check(0), BAD);
        due("none wait", x.count(7), 0);
        due("check bad", x.check(31), BAD);
        x.tell(1);
        due("check without an image", x.check(1), NO);
        due("none wait", x.count(7), 0);
        int[] rows = new int[60];
        x = townWithImage();
        for (int i = 0; i < 30; i++) {
            x.days(1);
            rows[2 * i] = x.town(0);
            rows[2 * i + 1] = x.town(3);
        }
        for (int n : new int[] {1, 2, 15, 30}) {
            x = toldRow(rows, 2 * n, -1);
            due("check " + n, x.check(n), 0);
            due("none wait", x.count(7), 0);
            due("nothing changed", x.count(1), 33);
            due("nothing changed", x.count(9), 9);
            for (int at = 0; at < 2 * n; at++) {
                due("wrong at " + at, toldRow(rows, 2 * n, at).check(n), 1 + at);
                due("missing at " + at, toldRow(rows, at, -1).check(n), 1 + at);
            }
            if (n < 30) {
                due("one too many", toldRow(rows, 2 * n + 1, -1).check(n), 1 + 2 * n);
                due("two too many", toldRow(rows, 2 * n + 2, -1).check(n), 1 + 2 * n);
            }
        }
        JugMemory y = new JugMemory();
        for (int i = 0; i < 99; i++) {
            y.days(100);
        }
        y.days(97);
        y.frost(0);
        y.jug(5, 4, 0, 0);
        y.keep();
        for (int v : new int[] {4, 4, 8, 4}) {
            y.tell(v);
        }
        due("fewer, up to 9999", y.check(3), 0);
        for (int v : new int[] {4, 4, 8, 4, 12, 4}) {
            y.tell(v);
        }
        due("fewer, up to 9999", y.check(3), 5);
    }

    private static JugMemory townWithImage() {
        JugMemory x = someTown(5);
        textOf(x, "want b-m/2");
        x.days(3);
        x.keep();
        return x;
    }

    /** An object of its own for each row that is told, 30 days on and otherwise than its image: it has 512 calls alone. */
    private static JugMemory toldRow(int[] row, int many, int wrongAt) {
        JugMemory x = townWithImage();
        x.days(30);
        textOf(x, "want 0");
        x.frost(100);
        x.seed(9);
        for (int i = 0; i < many; i++) {
            x.tell(i == wrongAt ? row[i] + 1 : row[i]);
        }
        return x;
    }

    private static void p40Keep() {
        JugMemory x = new JugMemory();
        due("keep", x.keep(), 0);
        x.deal(4);
        due("back", x.back(), 0);
        x.deal(6);
        due("keep", x.keep(), 6);
        x.deal(2);
        due("the latest image", x.back(), 6);
    }

    private static void p41Back() {
        JugMemory x = someTown(3);
        due("back no", x.back(), NO);
        textOf(x, "want b-1");
        textOf(x, "fee g+1");
        x.days(10);
        int[] before = all(x);
        due("keep", x.keep(), x.count(0));
        for (int again = 0; again < 2; again++) {
            x.days(40);
            x.heart(2, 8);
            x.frost(77);
            x.seed(4);
            x.deal(3);
            x.gives(0, 6);
            x.turns(0, 5);
            x.set(0, 1, 99);
            due("text", textOf(x, "want 3"), 2);
            due("text", textOf(x, "fine m+5"), 3);
            x.sheet(0, 0, 3 + again);
            x.lay(0, 3, 5 + again);
            x.tell(6);
            x.feed(1, 2, 3);
            due("back", x.back(), before[0]);
            int[] after = all(x);
            for (int i = 0; i < before.length; i++) {
                due("all as the image, " + i, after[i], before[i]);
            }
            due("numbers that wait stay", x.count(7), 1 + again);
            due("the tape stays", x.count(8), 12);
            due("sheets stay", x.mark(0, 2 + again, 1), 1);
            due("slots stay", x.rest(0, 100), 5 + again);
        }
    }

    /** All that an image keeps, as far as it is told. */
    private static int[] all(JugMemory x) {
        int[] row = new int[140];
        int at = 0;
        for (int what : new int[] {0, 1, 2, 3, 4, 5, 6, 9}) {
            row[at++] = x.count(what);
        }
        for (int h = 0; h < 8; h++) {
            for (int what = 0; what < 3; what++) {
                row[at++] = x.hand(h, what);
            }
        }
        for (int j = 0; j < 10; j++) {
            for (int what = 0; what < 8; what++) {
                row[at++] = x.told(j, what);
            }
            row[at++] = x.fine(j);
        }
        for (int key = 0; key < 3; key++) {
            row[at++] = x.why(key);
            row[at++] = x.textTold(key, 1);
        }
        row[at++] = x.fee();
        row[at++] = x.behind(20, 0);
        return row;
    }

    private static void p42Count() {
        JugMemory x = someTown(3);
        due("count bad", x.count(-1), BAD);
        due("count bad", x.count(10), BAD);
        textOf(x, "fee 1");
        textOf(x, "fee 2");
        x.tell(0);
        x.tell(0);
        x.tell(0);
        x.feed(0, 0, 0);
        x.frost(60);
        x.days(20);
        due("jugs", x.count(0), x.behind(0, 3));
        due("the day", x.count(1), 20);
        due("frost", x.count(2), 60);
        due("got", x.count(3), x.town(0));
        due("sold", x.count(4), x.town(1));
        due("broken", x.count(5), x.town(2));
        due("texts", x.count(6), 2);
        due("numbers that wait", x.count(7), 3);
        due("bytes", x.count(8), 12);
        int z = x.count(9);
        due("z", x.seed(5), z);
    }
}
