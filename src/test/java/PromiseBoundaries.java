/** The promises 1 to 42: for each sentence that names a boundary or a refused call, a test of its own. */
public final class PromiseBoundaries extends Sentences {
    public static void main(String[] args) {
        newObject();
        jug();
        toldAsTurns();
        set();
        givesHeartHandFrost();
        dealAndSeed();
        days();
        townAndMeasure();
        behindAndEnough();
        heirHeartsBecomes();
        like();
        feeAndFine();
        feedAndTrim();
        text();
        textToldAndWhy();
        sheet();
        mark();
        pourAndReads();
        copy();
        lay();
        askItemRest();
        tellAndCheck();
        keepBackCount();
        end();
    }

    /** What an index just outside of 0 .. last may be. */
    private static int[] outside(int last) {
        return new int[] {LOW, -1, last + 1, HIGH};
    }

    private static void tenJugs(JugMemory x) {
        x.frost(0);
        for (int i = 0; i < 10; i++) {
            x.jug(i % 6, 90 + i, i % 8, 80 + i);
        }
    }

    // ---- jugs

    private static void newObject() {
        sentence("P1: As told; no JUGS.", () -> {
            JugMemory x = new JugMemory();
            int[] counts = {0, 0, 5, 0, 0, 0, 0, 0, 0, 1};
            for (int what = 0; what < 10; what++) {
                due("count " + what, x.count(what), counts[what]);
            }
            due("told", x.told(0, 0), BAD);
            due("as", x.as(0, 0), BAD);
            due("turns", x.turns(0, 0), BAD);
            due("set", x.set(0, 1, 1), BAD);
            due("gives", x.gives(0, 0), BAD);
            due("fine", x.fine(0), BAD);
            due("heir", x.heir(0, 1, 0), BAD);
            due("becomes", x.becomes(0, 1, 0), BAD);
            due("measure", x.measure(0, 1, 0), BAD);
            due("lay", x.lay(0, 1, 0), BAD);
            due("marks", x.town(3), 0);
            due("best", x.town(5), NONE);
            due("back", x.back(), NO);
        });
        sentence("P1: objects have nothing in common", () -> {
            JugMemory x = made(Sentences::rich);
            due("jugs of the first", x.count(0), 6);
            due("jugs of another image", new JugMemory().back(), NO);
            due("jugs of another", new JugMemory().count(0), 0);
            due("texts of another", new JugMemory().count(6), 0);
        });
    }

    private static void jug() {
        sentence("P2: One more JUG: its number.", () -> {
            JugMemory x = new JugMemory();
            int[][] rows = {{0, 1, 0, 0}, {5, 1, 7, 1}, {0, 99, 7, 99}, {5, 99, 0, 0}};
            for (int i = 0; i < rows.length; i++) {
                int[] r = rows[i];
                due("jug", x.jug(r[0], r[1], r[2], r[3]), i);
                int[] told = {r[0], r[1], r[3], r[2], 0};
                for (int what = 0; what < 5; what++) {
                    due("told " + what, x.told(i, what), told[what]);
                }
            }
        });
        sentence("P2: BAD", () -> {
            int[][] bad = {{-1, 5, 0, 0}, {6, 5, 0, 0}, {0, 0, 0, 0}, {0, 100, 0, 0}, {0, -1, 0, -1}, {0, 5, -1, 0}, {0, 5, 8, 0}, {0, 5, 0, -1},
                {LOW, 5, 0, 0}, {HIGH, 5, 0, 0}, {0, LOW, 0, LOW}, {0, HIGH, 0, 0}, {0, 5, LOW, 0}, {0, 5, HIGH, 0}, {0, 5, 0, LOW}};
            for (int[] b : bad) {
                leaves(Sentences::rich, "jug " + b[0] + ", " + b[1] + ", " + b[2] + ", " + b[3], BAD, x -> x.jug(b[0], b[1], b[2], b[3]));
            }
        });
        sentence("P2: BAD: MARK above BRIM, too", () -> {
            int[][] bad = {{1, 2}, {5, 6}, {99, 100}, {5, HIGH}};
            for (int[] b : bad) {
                leaves(Sentences::rich, "brim " + b[0] + ", mark " + b[1], BAD, x -> x.jug(0, b[0], 0, b[1]));
                due("brim " + b[0] + ", mark " + b[0], made(Sentences::rich).jug(0, b[0], 0, b[0]), 6);
            }
        });
        sentence("P2: FULL", () -> {
            JugMemory x = new JugMemory();
            for (int i = 0; i < 9; i++) {
                x.jug(0, 5, 0, 0);
            }
            due("the tenth", x.jug(0, 5, 0, 0), 9);
            leaves(PromiseBoundaries::tenJugs, "the eleventh", FULL, y -> y.jug(0, 5, 0, 0));
        });
        sentence("P2: BAD stands ahead of FULL", () -> leaves(PromiseBoundaries::tenJugs, "mark above brim, and full", BAD, y -> y.jug(0, 5, 0, 6)));
        sentence("P2: there is room again when one is gone", () -> {
            JugMemory x = made(PromiseBoundaries::tenJugs);
            x.set(4, 1, 1);
            x.set(4, 4, 9);
            x.frost(100);
            x.days(1);
            due("jugs", x.count(0), 9);
            due("one more", x.jug(0, 7, 2, 3), 9);
            int[] told = {0, 7, 3, 2, 0};
            for (int what = 0; what < 5; what++) {
                due("told " + what, x.told(9, what), told[what]);
            }
            due("full again", x.jug(0, 7, 2, 3), FULL);
        });
    }

    private static void toldAsTurns() {
        sentence("P3: what 0 .. 7 of a JUG, the first and the last", () -> {
            JugMemory x = made(PromiseBoundaries::tenJugs);
            int[] first = {0, 90, 80, 0, 0, 80, 81, 80};
            int[] last = {3, 99, 89, 1, 0, 40, 88, 64};
            for (int what = 0; what < 8; what++) {
                due("the first", x.told(0, what), first[what]);
                due("the last", x.told(9, what), last[what]);
            }
        });
        sentence("P3: BAD", () -> {
            for (int jug : outside(5)) {
                leaves(Sentences::rich, "told jug " + jug, BAD, x -> x.told(jug, 0));
            }
            for (int what : outside(7)) {
                leaves(Sentences::rich, "told what " + what, BAD, x -> x.told(0, what));
            }
        });
        sentence("P4: A JUG as one of a KIND: MARK.", () -> {
            leaves(Sentences::sixJugs, "a cracked one as cracked", 33, x -> x.as(3, 3));
            leaves(Sentences::sixJugs, "a cracked one as an heirloom", 33, x -> x.as(3, 1));
            leaves(Sentences::sixJugs, "a cracked one as a jug", 33, x -> x.as(3, 0));
        });
        sentence("P4: BAD: jug, kind", () -> {
            for (int jug : outside(5)) {
                leaves(Sentences::rich, "as jug " + jug, BAD, x -> x.as(jug, 0));
            }
            for (int kind : outside(5)) {
                leaves(Sentences::rich, "as kind " + kind, BAD, x -> x.as(0, kind));
            }
        });
        sentence("P4: KIND: it is not of that KIND, nor of one under it.", () -> {
            leaves(Sentences::rich, "an heirloom as cracked", KIND, x -> x.as(1, 3));
            leaves(Sentences::rich, "a cracked one as a pail", KIND, x -> x.as(3, 2));
            leaves(Sentences::rich, "a jug as a thimble", KIND, x -> x.as(0, 5));
            leaves(Sentences::rich, "a miser's one as cracked", KIND, x -> x.as(4, 3));
        });
        sentence("P5: A JUG is of another KIND from now on: what it was.", () -> {
            JugMemory x = made(Sentences::sixJugs);
            due("from 5", x.turns(5, 0), 5);
            due("from 0", x.turns(5, 5), 0);
            due("to what it is", x.turns(5, 5), 5);
            due("kind", x.told(5, 0), 5);
        });
        sentence("P5: BAD.", () -> {
            for (int jug : outside(5)) {
                leaves(Sentences::rich, "turns jug " + jug, BAD, x -> x.turns(jug, 0));
            }
            for (int kind : outside(5)) {
                leaves(Sentences::rich, "turns kind " + kind, BAD, x -> x.turns(0, kind));
            }
        });
    }

    private static void set() {
        sentence("P6: BRIM (what 1; MARK becomes BRIM at most)", () -> {
            int[][] rows = {{99, 10}, {11, 10}, {10, 10}, {9, 9}, {1, 1}};
            for (int[] r : rows) {
                JugMemory x = made(Sentences::sixJugs);
                due("set", x.set(0, 1, r[0]), 20);
                due("brim", x.told(0, 1), r[0]);
                due("mark by brim " + r[0], x.told(0, 2), r[1]);
            }
        });
        sentence("P6: MARK (2)", () -> {
            JugMemory x = made(Sentences::sixJugs);
            due("to 0", x.set(0, 2, 0), 10);
            due("to brim", x.set(0, 2, 20), 0);
            due("mark", x.told(0, 2), 20);
            due("brim", x.told(0, 1), 20);
        });
        sentence("P6: FILLS (4)", () -> {
            JugMemory x = made(Sentences::sixJugs);
            due("to 99", x.set(0, 4, 99), 0);
            due("to 0", x.set(0, 4, 0), 99);
            due("fills", x.told(0, 4), 0);
        });
        sentence("P6: BAD.", () -> {
            int[][] bad = {{-1, 1, 5}, {6, 1, 5}, {LOW, 1, 5}, {HIGH, 1, 5}, {0, 1, 0}, {0, 1, 100}, {0, 1, -1}, {0, 1, LOW}, {0, 1, HIGH}, {0, 2, -1}, {0, 2, 21},
                {0, 2, LOW}, {0, 2, HIGH}, {0, 4, -1}, {0, 4, 100}, {0, 4, LOW}, {0, 4, HIGH}, {0, -1, 5}, {0, 0, 5}, {0, 3, 5}, {0, 5, 5}, {0, LOW, 5}, {0, HIGH, 5}};
            for (int[] b : bad) {
                leaves(Sentences::rich, "set " + b[0] + ", " + b[1] + ", " + b[2], BAD, x -> x.set(b[0], b[1], b[2]));
            }
        });
    }

    private static void givesHeartHandFrost() {
        sentence("P7: A JUG is another HAND's: whose it was.", () -> {
            JugMemory x = made(Sentences::sixJugs);
            due("to 7", x.gives(5, 7), 5);
            due("to 0", x.gives(5, 0), 7);
            due("to whose it is", x.gives(5, 0), 0);
            due("hand", x.told(5, 3), 0);
            due("sold", x.town(1), 0);
        });
        sentence("P7: BAD.", () -> {
            for (int jug : outside(5)) {
                leaves(Sentences::rich, "gives jug " + jug, BAD, x -> x.gives(jug, 1));
            }
            for (int hand : outside(7)) {
                leaves(Sentences::rich, "gives hand " + hand, BAD, x -> x.gives(0, hand));
            }
        });
        sentence("P8: HEART of a HAND becomes v: what it was.", () -> {
            JugMemory x = new JugMemory();
            for (int hand : new int[] {0, 7}) {
                due("to 9", x.heart(hand, 9), 3);
                due("to 0", x.heart(hand, 0), 9);
                due("heart", x.hand(hand, 0), 0);
            }
            due("another hand's", x.hand(1, 0), 3);
        });
        sentence("P8: BAD.", () -> {
            for (int hand : outside(7)) {
                leaves(Sentences::rich, "heart of hand " + hand, BAD, x -> x.heart(hand, 5));
            }
            for (int v : outside(9)) {
                leaves(Sentences::rich, "heart " + v, BAD, x -> x.heart(0, v));
            }
        });
        sentence("P9: what 0 HEART, 1 HAD, 2 its JUGS, as a set.", () -> {
            JugMemory x = made(y -> oneThimble(y, 9, 7));
            x.heart(7, 8);
            x.days(1);
            int[] due = {8, 9, 1};
            for (int what = 0; what < 3; what++) {
                due("what " + what, x.hand(7, what), due[what]);
            }
            due("of one who has none", x.hand(0, 2), 0);
        });
        sentence("P9: BAD.", () -> {
            for (int hand : outside(7)) {
                leaves(Sentences::rich, "hand " + hand, BAD, x -> x.hand(hand, 0));
            }
            for (int what : outside(2)) {
                leaves(Sentences::rich, "what " + what, BAD, x -> x.hand(0, what));
            }
        });
        sentence("P10: FROST becomes v: what it was.", () -> {
            JugMemory x = new JugMemory();
            due("to 0", x.frost(0), 5);
            due("to 100", x.frost(100), 0);
            due("frost", x.count(2), 100);
        });
        sentence("P10: BAD.", () -> {
            for (int v : outside(100)) {
                leaves(Sentences::rich, "frost " + v, BAD, x -> x.frost(v));
            }
        });
    }

    private static void dealAndSeed() {
        sentence("P11: n (1 .. 10) of them", () -> {
            due("1", new JugMemory().deal(1), 1);
            due("10", new JugMemory().deal(10), 10);
        });
        sentence("P11: as many as there is room for (no draws for others)", () -> {
            for (int there = 0; there <= 10; there++) {
                JugMemory x = new JugMemory();
                for (int i = 0; i < there; i++) {
                    x.jug(0, 5, 0, 0);
                }
                due("deal beside " + there, x.deal(10), 10 - there);
                due("jugs", x.count(0), 10);
                due("z", x.count(9), stepped(1, 4 * (10 - there)));
            }
            JugMemory x = made(y -> {
                for (int i = 0; i < 7; i++) {
                    y.jug(0, 5, 0, 0);
                }
            });
            due("as much as there is room for", x.deal(3), 3);
            leaves(PromiseBoundaries::tenJugs, "no room", 0, y -> y.deal(1));
        });
        sentence("P11: BAD.", () -> {
            for (int n : new int[] {LOW, -1, 0, 11, HIGH}) {
                leaves(Sentences::rich, "deal " + n, BAD, x -> x.deal(n));
                leaves(PromiseBoundaries::tenJugs, "deal " + n + " without room", BAD, x -> x.deal(n));
            }
        });
        sentence("P12: z becomes v: what it was.", () -> {
            JugMemory x = new JugMemory();
            int was = 1;
            for (int v : new int[] {LOW, HIGH, 0, -1, BAD, NONE}) {
                due("seed", x.seed(v), was);
                due("z", x.count(9), v);
                was = v;
            }
        });
    }

    // ---- days

    private static void days() {
        sentence("P13: n (1 .. 100) DAYS", () -> {
            for (int n : new int[] {1, 2, 99, 100}) {
                JugMemory x = made(y -> oneThimble(y, 9, 2));
                due("days " + n, x.days(n), 9 * n);
                due("the day", x.count(1), n);
                due("got", x.town(0), 9 * n);
            }
        });
        sentence("P13: (no more than up to 9999)", () -> {
            int[][] rows = {{9998, 1, 1}, {9998, 2, 1}, {9999, 1, 0}, {9999, 100, 0}, {9899, 100, 100}, {9900, 100, 99}};
            for (int[] r : rows) {
                JugMemory x = new JugMemory();
                toDay(x, r[0]);
                oneThimble(x, 9, 2);
                x.seed(5);
                due("on " + r[0] + " " + r[1] + " days", x.days(r[1]), 9 * r[2]);
                due("the day", x.count(1), r[0] + r[2]);
                due("draws of those days alone", x.count(9), stepped(5, 3 * r[2]));
                due("fills", x.told(0, 4), Math.min(r[2], 99));
            }
        });
        sentence("P13: by how much GOT is more", () -> {
            JugMemory x = made(y -> oneThimble(y, 9, 2));
            due("of none before", x.days(1), 9);
            due("of some before", x.days(2), 18);
            due("without jugs", new JugMemory().days(100), 0);
        });
        sentence("P13: BAD.", () -> {
            for (int n : new int[] {LOW, -1, 0, 101, HIGH}) {
                leaves(Sentences::rich, "days " + n, BAD, x -> x.days(n));
            }
            JugMemory x = new JugMemory();
            toDay(x, 9999);
            due("too many, on the last day, too", x.days(101), BAD);
            due("none, on the last day, too", x.days(0), BAD);
        });
    }

    private static void townAndMeasure() {
        sentence("P14: what 0 .. 5", () -> {
            JugMemory x = made(Sentences::sixJugs);
            dayOf(x, 0, 0, -1);
            int[] due = {10 + 15 + 6 + 16 + 5 + 2, 0, 0, 11 + 28 + 6 + 32 + 4 + 2, 3, 1};
            for (int what = 0; what < 6; what++) {
                due("town " + what, x.town(what), due[what]);
            }
        });
        sentence("P14: 3 MARK of all, together", () -> {
            due("of none", new JugMemory().town(3), 0);
            JugMemory x = made(PromiseBoundaries::tenJugs);
            due("of ten", x.town(3), 845);
            x.set(4, 1, 1);
            x.set(4, 4, 9);
            x.frost(100);
            x.days(1);
            int sum = 0;
            for (int i = 0; i < 9; i++) {
                sum += x.told(i, 2);
            }
            due("one is gone", x.count(0), 9);
            due("of nine", x.town(3), sum);
        });
        sentence("P14: 5 BEST (NONE: there are no JUGS)", () -> {
            JugMemory x = new JugMemory();
            due("of none", x.town(5), NONE);
            x.jug(0, 1, 0, 0);
            due("of one", x.town(5), 0);
            x.frost(100);
            x.days(1);
            due("of one that is gone", x.town(5), NONE);
        });
        sentence("P14: BAD.", () -> {
            for (int what : outside(5)) {
                leaves(Sentences::rich, "town " + what, BAD, x -> x.town(what));
            }
        });
        sentence("P15: of v (0 .. 99)", () -> {
            Steps two = x -> {
                x.jug(0, 99, 0, 0);
                x.jug(0, 98, 0, 0);
            };
            leaves(two, "0", 0, x -> x.measure(0, 1, 0));
            leaves(two, "99", 1, x -> x.measure(0, 1, 99));
            for (int v : outside(99)) {
                leaves(two, "v " + v, BAD, x -> x.measure(0, 1, v));
            }
        });
        sentence("P15: BAD: also one and the same", () -> {
            for (int v : new int[] {0, 5, 20, 99}) {
                leaves(Sentences::rich, "one and the same, of " + v, BAD, x -> x.measure(0, 0, v));
            }
            for (int jug : outside(5)) {
                leaves(Sentences::rich, "jug " + jug, BAD, x -> x.measure(jug, 0, 0));
                leaves(Sentences::rich, "other " + jug, BAD, x -> x.measure(0, jug, 0));
            }
        });
        sentence("P15: two of the same BRIM are not one and the same", () -> {
            JugMemory x = new JugMemory();
            x.jug(0, 5, 0, 0);
            x.jug(0, 5, 0, 0);
            due("5", x.measure(0, 1, 5), 1);
        });
        sentence("P15: NONE: never", () -> {
            leaves(Sentences::sixJugs, "3 by 20 and 12", NONE, x -> x.measure(0, 2, 3));
            leaves(Sentences::sixJugs, "21 by 20 and 12", NONE, x -> x.measure(0, 2, 21));
            leaves(Sentences::sixJugs, "4 by 20 and 12", 4, x -> x.measure(0, 2, 4));
        });
    }

    // ---- what will be

    private static void behindAndEnough() {
        sentence("P16: BEHIND n (0 .. 100) DAYS", () -> {
            Steps one = x -> oneThimble(x, 9, 2);
            leaves(one, "0 days", 0, x -> x.behind(0, 0));
            leaves(one, "1 day", 9, x -> x.behind(1, 0));
            leaves(one, "100 days", 900, x -> x.behind(100, 0));
        });
        sentence("P16: what 0 GOT, 1 SOLD, 2 BROKEN, 3 how many JUGS there are; 4 and k: HAD of HAND k", () -> {
            JugMemory x = new JugMemory();
            x.frost(100);
            x.jug(5, 2, 0, 0);
            x.jug(2, 9, 7, 8);
            x.seed(seedFor(2, 0, 0, -1));
            due("got", x.behind(1, 0), 11);
            due("sold", x.behind(1, 1), 0);
            due("broken", x.behind(1, 2), 1);
            due("jugs", x.behind(1, 3), 2);
            due("had of 0", x.behind(1, 4), 2);
            due("had of 1", x.behind(1, 5), 0);
            due("had of 7", x.behind(1, 11), 9);
            due("jugs in the end", x.behind(100, 3), 0);
            due("all of them broken", x.behind(100, 2), 11);
        });
        sentence("P16: BAD.", () -> {
            for (int n : outside(100)) {
                leaves(Sentences::rich, "behind " + n, BAD, x -> x.behind(n, 0));
            }
            for (int what : outside(11)) {
                leaves(Sentences::rich, "what " + what, BAD, x -> x.behind(1, what));
            }
        });
        sentence("P17: ENOUGH of a HAND, for v (0 .. 9999)", () -> {
            JugMemory x = made(y -> oneThimble(y, 50, 7));
            due("0", x.enough(7, 0), 0);
            due("0, of one who gets none", x.enough(0, 0), 0);
            due("9999, as 10000 would be", x.enough(7, 9999), 200);
            due("9950", x.enough(7, 9950), 199);
            due("9951", x.enough(7, 9951), 200);
        });
        sentence("P17: NONE: not by then", () -> {
            leaves(x -> oneThimble(x, 49, 7), "9801", NONE, x -> x.enough(7, 9801));
            leaves(x -> oneThimble(x, 49, 7), "9800", 200, x -> x.enough(7, 9800));
            leaves(x -> oneThimble(x, 49, 7), "1, of one who gets none", NONE, x -> x.enough(0, 1));
            leaves(Sentences::nothing, "1, without jugs", NONE, x -> x.enough(0, 1));
        });
        sentence("P17: BAD", () -> {
            for (int hand : outside(7)) {
                leaves(Sentences::rich, "enough of hand " + hand, BAD, x -> x.enough(hand, 0));
            }
            for (int v : outside(9999)) {
                leaves(Sentences::rich, "enough for " + v, BAD, x -> x.enough(0, v));
            }
        });
    }

    private static void heirHeartsBecomes() {
        sentence("P18: HEIR of a JUG, for n (1 .. 60): what 0 the HAND, 1 GOT", () -> {
            Steps one = x -> oneThimble(x, 9, 2);
            leaves(one, "1 day", 9, x -> x.heir(0, 1, 1));
            leaves(one, "60 days", 540, x -> x.heir(0, 60, 1));
            leaves(one, "the hand", 0, x -> x.heir(0, 60, 0));
            JugMemory x = made(one);
            x.days(10);
            due("GOT of before is in it", x.heir(0, 1, 1), 99);
        });
        sentence("P18: BAD.", () -> thoughtBad("heir", JugMemory::heir, 5));
        sentence("P19: HEARTS of a HAND, for n (1 .. 60): what 0 the HEART, 1 GOT", () -> {
            Steps one = x -> oneThimble(x, 9, 2);
            leaves(one, "1 day", 9, x -> x.hearts(7, 1, 1));
            leaves(one, "60 days", 540, x -> x.hearts(7, 60, 1));
            leaves(one, "the heart", 0, x -> x.hearts(7, 60, 0));
            due("without jugs", new JugMemory().hearts(0, 60, 1), 0);
            JugMemory x = made(one);
            x.days(10);
            due("GOT of before is in it", x.hearts(2, 1, 1), 99);
        });
        sentence("P19: BAD.", () -> thoughtBad("hearts", JugMemory::hearts, 7));
        sentence("P20: BECOMES of a JUG, for n (1 .. 60): what 0 the KIND, 1 GOT", () -> {
            Steps one = x -> oneThimble(x, 9, 2);
            leaves(one, "1 day", 9, x -> x.becomes(0, 1, 1));
            leaves(one, "60 days", 540, x -> x.becomes(0, 60, 1));
            leaves(one, "the kind", 5, x -> x.becomes(0, 60, 0));
            JugMemory x = made(one);
            x.days(10);
            due("GOT of before is in it", x.becomes(0, 1, 1), 99);
        });
        sentence("P20: BAD.", () -> thoughtBad("becomes", JugMemory::becomes, 5));
    }

    private interface Thought {
        int on(JugMemory x, int of, int n, int what);
    }

    private static void thoughtBad(String call, Thought thought, int last) {
        for (int of : outside(last)) {
            leaves(Sentences::rich, call + " of " + of, BAD, x -> thought.on(x, of, 1, 0));
        }
        for (int n : new int[] {LOW, -1, 0, 61, HIGH}) {
            leaves(Sentences::rich, call + " for " + n, BAD, x -> thought.on(x, 0, n, 0));
        }
        for (int what : outside(1)) {
            leaves(Sentences::rich, call + " what " + what, BAD, x -> thought.on(x, 0, 1, what));
        }
    }

    private static void like() {
        sentence("P21: what 0 the JUG, 1 the differences, together", () -> {
            leaves(Sentences::rich, "the jug", made(Sentences::rich).like(0, 0), x -> x.like(0, 0));
            JugMemory x = made(Sentences::sixJugs);
            x.sheet(3, 0, 1);
            x.mark(3, 0, 31);
            due("the jug", x.like(3, 0), 3);
            due("the differences", x.like(3, 1), 2);
        });
        sentence("P21: BAD", () -> {
            for (int sheet : outside(3)) {
                leaves(Sentences::rich, "like sheet " + sheet, BAD, x -> x.like(sheet, 0));
            }
            for (int what : outside(1)) {
                leaves(Sentences::rich, "like what " + what, BAD, x -> x.like(0, what));
            }
        });
        sentence("P21: BAD stands ahead of NOTHING", () -> leaves(Sentences::rich, "what 2 of a missing one", BAD, x -> x.like(3, 2)));
        sentence("P21: NOTHING", () -> leaves(Sentences::rich, "a missing one", NOTHING, x -> x.like(3, 0)));
        sentence("P21: NOTHING stands ahead of NONE", () -> leaves(Sentences::nothing, "a missing one, without jugs", NOTHING, x -> x.like(0, 0)));
        sentence("P21: NONE: there are no JUGS", () -> {
            leaves(x -> x.sheet(0, 0, 3), "without jugs", NONE, x -> x.like(0, 0));
            leaves(x -> x.sheet(0, 0, 0), "without jugs and places", NONE, x -> x.like(0, 1));
            JugMemory x = made(y -> y.jug(0, 9, 0, 0));
            x.sheet(0, 0, 0);
            due("with a jug, without places", x.like(0, 0), 0);
        });
    }

    private static void feeAndFine() {
        sentence("P22: What fee gives.", () -> {
            due("of a new one", new JugMemory().fee(), 0);
            leaves(Sentences::rich, "fee", made(Sentences::rich).town(0) + made(Sentences::rich).town(1), JugMemory::fee);
        });
        sentence("P23: What fine gives for a JUG.", () -> {
            leaves(Sentences::sixJugs, "the first", 10, x -> x.fine(0));
            leaves(Sentences::sixJugs, "the last", 0, x -> x.fine(5));
        });
        sentence("P23: BAD.", () -> {
            for (int jug : outside(5)) {
                leaves(Sentences::rich, "fine " + jug, BAD, x -> x.fine(jug));
            }
        });
    }

    // ---- texts

    private static void feedAndTrim() {
        sentence("P24: Twelve bytes come to THE TAPE, the highest of each number first", () -> {
            JugMemory x = new JugMemory();
            due("feed \"fee \" \"1234\" \"   +\"", x.feed(0x66656520, 0x31323334, 0x2020202B), 12);
            due("feed \"0005\" \"*   \" \"   2\"", x.feed(0x30303035, 0x2A202020, 0x20202032), 24);
            due("text", x.text(), 0);
            due("fee", x.fee(), 1244);
            JugMemory y = new JugMemory();
            y.feed(0xFFFFFFFF, 0x80000000, 0xFF);
            due("bytes above 127", y.text(), -100);
        });
        sentence("P24: FULL: it would have more than 96.", () -> {
            Steps eighty = x -> {
                for (int i = 0; i < 7; i++) {
                    x.feed(0x66656520, 0x20202020, 0x20202020);
                }
            };
            due("84 and 12", made(eighty).feed(0, 0, 0), 96);
            JugMemory x = made(eighty);
            x.feed(0, 0, 0);
            x.trim(85);
            due("85 and 12", x.feed(0, 0, 0), FULL);
            due("bytes", x.count(8), 85);
            x.trim(84);
            due("84 and 12 again", x.feed(0, 0, 0), 96);
            Steps full = y -> onTape(y, "fee 1234" + repeated(" ", 88));
            leaves(full, "96 and 12", FULL, y -> y.feed(0x78787878, 0x78787878, 0x78787878));
            Steps almost = y -> onTape(y, "fee 1234" + repeated(" ", 77));
            leaves(almost, "85 and 12", FULL, y -> y.feed(0x78787878, 0x78787878, 0x78787878));
        });
        sentence("P25: THE TAPE keeps its first n bytes: n.", () -> {
            JugMemory x = new JugMemory();
            due("none of none", x.trim(0), 0);
            onTape(x, "fee 1234");
            due("all of them", x.trim(8), 8);
            due("all but two", x.trim(6), 6);
            due("text", x.text(), 0);
            due("fee", x.fee(), 12);
            onTape(x, "fee 1234");
            due("none of them", x.trim(0), 0);
            due("bytes", x.count(8), 0);
        });
        sentence("P25: BAD.", () -> {
            for (int n : outside(8)) {
                leaves(Sentences::rich, "trim " + n, BAD, x -> x.trim(n));
            }
            leaves(Sentences::nothing, "1 of none", BAD, x -> x.trim(1));
            leaves(x -> onTape(x, "fee " + repeated(" ", 91) + "1"), "97 of 96", BAD, x -> x.trim(97));
        });
    }

    private static void fourteenTexts(JugMemory x) {
        for (int i = 0; i < 14; i++) {
            textOf(x, "fee " + i);
        }
    }

    /** A refused text leaves all as it was but the tape. */
    private static void refusedText(Steps made, String tape, int want) {
        JugMemory x = made(made);
        due("text of \"" + tape + "\"", textOf(x, tape), want);
        alike("\"" + tape + "\" changes nothing but the tape", y -> {
            made.on(y);
            y.trim(0);
        }, y -> {
            made.on(y);
            textOf(y, tape);
        });
    }

    private static void text() {
        sentence("P26: THE TAPE is a TEXT: its number.", () -> {
            JugMemory x = new JugMemory();
            due("the first", textOf(x, "fee 1"), 0);
            due("the second", textOf(x, "want 1"), 1);
            due("the tape", x.count(8), 0);
        });
        sentence("P26: -100 less the place of its FAULT", () -> {
            refusedText(Sentences::rich, "", -100);
            refusedText(Sentences::rich, "x", -100);
            refusedText(Sentences::rich, "fee", -103);
            refusedText(Sentences::rich, "fine b+m h", -109);
            refusedText(Sentences::rich, "want 1" + repeated(" ", 89) + "x", -195);
            refusedText(Sentences::rich, "want (" + repeated(" ", 90), -196);
        });
        sentence("P26: FULL", () -> refusedText(PromiseBoundaries::fourteenTexts, "want 1", FULL));
        sentence("P26: a FAULT stands ahead of FULL", () -> refusedText(PromiseBoundaries::fourteenTexts, "want 1 1", -107));
        sentence("P26: what has a FAULT takes no number", () -> {
            JugMemory x = new JugMemory();
            due("fault", textOf(x, "fee 1 1"), -106);
            due("text", textOf(x, "fee 1"), 0);
        });
    }

    private static void textToldAndWhy() {
        sentence("P27: what 0 KEY (0 want, 1 fee, 2 fine), 1 how many NUMBERS and NAMES it has", () -> {
            JugMemory x = new JugMemory();
            textOf(x, "want m");
            textOf(x, "fee (g+s)*12/!3");
            textOf(x, "fine 1" + repeated("+1", 44));
            int[] pieces = {1, 4, 45};
            for (int text = 0; text < 3; text++) {
                due("key", x.textTold(text, 0), text);
                due("numbers and names", x.textTold(text, 1), pieces[text]);
            }
        });
        sentence("P27: BAD.", () -> {
            for (int text : outside(2)) {
                leaves(Sentences::rich, "textTold " + text, BAD, x -> x.textTold(text, 0));
            }
            for (int what : outside(1)) {
                leaves(Sentences::rich, "textTold what " + what, BAD, x -> x.textTold(0, what));
            }
            leaves(Sentences::nothing, "textTold of none", BAD, x -> x.textTold(0, 0));
            leaves(PromiseBoundaries::fourteenTexts, "textTold 14", BAD, x -> x.textTold(14, 0));
            leaves(PromiseBoundaries::fourteenTexts, "textTold 13", 1, x -> x.textTold(13, 0));
        });
        sentence("P28: The TEXT that counts for a KEY.", () -> {
            JugMemory x = made(Sentences::rich);
            int[] due = {0, 2, 1};
            for (int key = 0; key < 3; key++) {
                due("why " + key, x.why(key), due[key]);
            }
            x.text();
            due("the last", x.why(0), 3);
        });
        sentence("P28: BAD", () -> {
            for (int key : outside(2)) {
                leaves(Sentences::rich, "why " + key, BAD, x -> x.why(key));
            }
        });
        sentence("P28: NONE", () -> {
            for (int key = 0; key < 3; key++) {
                int of = key;
                leaves(Sentences::nothing, "why " + key, NONE, x -> x.why(of));
            }
            leaves(PromiseBoundaries::fourteenTexts, "why of want", NONE, x -> x.why(0));
            leaves(PromiseBoundaries::fourteenTexts, "why of fine", NONE, x -> x.why(2));
        });
    }

    // ---- sheets, slots

    private static void sheet() {
        sentence("P29: A SHEET becomes a row of n places of a sort, all 0: n", () -> {
            for (int sort = 0; sort < 2; sort++) {
                for (int n : new int[] {0, 1, 24}) {
                    JugMemory x = made(Sentences::rich);
                    x.sheet(1, sort, 24);
                    for (int place = 0; place < 24; place++) {
                        x.mark(1, place, 5);
                    }
                    due("sheet", x.sheet(1, sort, n), n);
                    x.lay(0, 2, 1);
                    for (int place = 0; place < n; place++) {
                        due("place " + place, x.item(0, place), 0);
                    }
                    due("beyond", x.item(0, n), INDEX);
                }
            }
        });
        sentence("P29: (sort -1: MISSING, n any): (0)", () -> {
            for (int n : new int[] {LOW, -1, 0, 24, 25, HIGH}) {
                JugMemory x = made(Sentences::rich);
                due("missing, n " + n, x.sheet(0, -1, n), 0);
                due("it is", x.mark(0, 0, 0), NOTHING);
            }
        });
        sentence("P29: BAD: sheet, sort, n above 24", () -> {
            for (int sheet : outside(3)) {
                leaves(Sentences::rich, "sheet " + sheet, BAD, x -> x.sheet(sheet, 0, 1));
                leaves(Sentences::rich, "sheet " + sheet + ", missing", BAD, x -> x.sheet(sheet, -1, 1));
            }
            for (int sort : new int[] {LOW, -2, 2, HIGH}) {
                leaves(Sentences::rich, "sort " + sort, BAD, x -> x.sheet(0, sort, 1));
            }
            for (int n : new int[] {25, HIGH}) {
                leaves(Sentences::rich, n + " shorts", BAD, x -> x.sheet(0, 0, n));
                leaves(Sentences::rich, n + " floats", BAD, x -> x.sheet(1, 1, n));
            }
        });
        sentence("P29: SIZE", () -> {
            for (int n : new int[] {-1, LOW}) {
                leaves(Sentences::rich, n + " shorts", SIZE, x -> x.sheet(0, 0, n));
                leaves(Sentences::rich, n + " floats", SIZE, x -> x.sheet(1, 1, n));
            }
        });
        sentence("P29: BAD stands ahead of SIZE", () -> {
            leaves(Sentences::rich, "sheet 4 of -1", BAD, x -> x.sheet(4, 0, -1));
            leaves(Sentences::rich, "sort 2 of -1", BAD, x -> x.sheet(0, 2, -1));
        });
    }

    private static void mark() {
        sentence("P30: of shorts its lowest 16 bits", () -> {
            int[][] rows = {{0, 0}, {-1, -1}, {32767, 32767}, {32768, -32768}, {-32768, -32768}, {-32769, 32767}, {65535, -1}, {65536, 0}, {65537, 1},
                {HIGH, -1}, {LOW, 0}, {NONE + 1, (short) (NONE + 1)}, {NONE - 1, (short) (NONE - 1)}, {100000, -31072}, {-100000, 31072}};
            for (int[] r : rows) {
                JugMemory x = new JugMemory();
                x.sheet(0, 0, 1);
                due("mark", x.mark(0, 0, r[0]), 1);
                x.lay(0, 2, 0);
                due("a short of " + r[0], x.item(0, 0), r[1]);
            }
        });
        sentence("P30: of floats v, -99999 .. 99999", () -> {
            for (int v : new int[] {-99999, -1, 0, 32768, 65536, 99999}) {
                JugMemory x = new JugMemory();
                x.sheet(0, 1, 1);
                due("mark", x.mark(0, 0, v), 1);
                x.lay(0, 2, 0);
                due("a float of " + v, x.item(0, 0), v);
            }
        });
        sentence("P30: NONE: NO NUMBER", () -> {
            JugMemory x = new JugMemory();
            x.sheet(0, 1, 1);
            due("mark", x.mark(0, 0, NONE), 1);
            x.lay(0, 2, 0);
            due("no number", x.item(0, 0), KIND);
            due("a number again", x.mark(0, 0, 7), 1);
            x.lay(0, 2, 0);
            due("it is", x.item(0, 0), 7);
        });
        sentence("P30: a place: the first and the last", () -> {
            JugMemory x = new JugMemory();
            x.sheet(0, 0, 24);
            due("the first", x.mark(0, 0, 3), 1);
            due("the last", x.mark(0, 23, 4), 1);
            x.lay(0, 2, 0);
            due("the first", x.item(0, 0), 3);
            due("the second", x.item(0, 1), 0);
            due("the last", x.item(0, 23), 4);
        });
        sentence("P30: BAD: sheet", () -> {
            for (int sheet : outside(3)) {
                leaves(Sentences::rich, "mark of sheet " + sheet, BAD, x -> x.mark(sheet, 0, 1));
            }
        });
        sentence("P30: NOTHING, ahead of INDEX", () -> {
            leaves(Sentences::rich, "of a missing one", NOTHING, x -> x.mark(3, 0, 1));
            leaves(Sentences::rich, "a place below 0 of a missing one", NOTHING, x -> x.mark(3, -1, NONE));
        });
        sentence("P30: INDEX, ahead of KIND and of BAD: v", () -> {
            for (int place : outside(2)) {
                leaves(Sentences::rich, "place " + place, INDEX, x -> x.mark(0, place, 1));
                leaves(Sentences::rich, "no number, place " + place, INDEX, x -> x.mark(0, place, NONE));
            }
            for (int place : outside(3)) {
                leaves(Sentences::rich, "a float, place " + place, INDEX, x -> x.mark(1, place, 100000));
            }
            leaves(Sentences::rich, "place 0 of none", INDEX, x -> x.mark(2, 0, 1));
        });
        sentence("P30: KIND: NONE in a row of shorts", () -> leaves(Sentences::rich, "no number", KIND, x -> x.mark(0, 0, NONE)));
        sentence("P30: BAD: v of floats", () -> {
            for (int v : new int[] {LOW, NONE - 1, NONE + 1, -100000, 100000, HIGH}) {
                leaves(Sentences::rich, "a float of " + v, BAD, x -> x.mark(1, 0, v));
            }
        });
    }

    private static void pourAndReads() {
        sentence("P31: (each held within 0 and BRIM", () -> {
            int[][] rows = {{-99999, 0}, {-1, 0}, {0, 0}, {1, 1}, {19, 19}, {20, 20}, {21, 20}, {99999, 20}};
            for (int[] r : rows) {
                JugMemory x = made(Sentences::sixJugs);
                x.sheet(0, 1, 1);
                x.mark(0, 0, r[0]);
                due("pour " + r[0], x.pour(0), 1);
                due("mark", x.told(0, 2), r[1]);
                due("again", x.pour(0), 0);
            }
        });
        sentence("P31: NO NUMBER, and beyond the SHEET: it stays)", () -> {
            JugMemory x = made(Sentences::sixJugs);
            x.sheet(0, 1, 3);
            x.mark(0, 1, NONE);
            due("pour", x.pour(0), 2);
            int[] marks = {0, 28, 0, 33, 9, 0};
            for (int i = 0; i < 6; i++) {
                due("mark of " + i, x.told(i, 2), marks[i]);
            }
            JugMemory y = made(Sentences::sixJugs);
            y.sheet(0, 0, 0);
            due("a sheet of no places", y.pour(0), 0);
            due("marks", y.town(3), 10 + 28 + 5 + 33 + 9);
        });
        sentence("P31: by numbers, from 0 on: places that are no JUG are left", () -> {
            JugMemory x = made(PromiseBoundaries::tenJugs);
            x.sheet(0, 0, 24);
            for (int place = 0; place < 24; place++) {
                x.mark(0, place, place + 1);
            }
            due("pour", x.pour(0), 10);
            for (int i = 0; i < 10; i++) {
                due("mark of " + i, x.told(i, 2), i + 1);
            }
            due("without jugs", made(y -> y.sheet(0, 0, 24)).pour(0), 0);
        });
        sentence("P31: how many are otherwise then", () -> {
            JugMemory x = made(Sentences::sixJugs);
            x.sheet(0, 1, 6);
            int[] same = {10, 28, 5, 33, 9, 0};
            for (int i = 0; i < 6; i++) {
                x.mark(0, i, same[i]);
            }
            due("none", x.pour(0), 0);
            x.mark(0, 5, 1);
            due("the last", x.pour(0), 1);
            x.mark(0, 5, 99);
            x.mark(0, 0, 9);
            due("two", x.pour(0), 2);
        });
        sentence("P31: BAD; NOTHING.", () -> {
            for (int sheet : outside(3)) {
                leaves(Sentences::rich, "pour " + sheet, BAD, x -> x.pour(sheet));
            }
            leaves(Sentences::rich, "pour a missing one", NOTHING, x -> x.pour(3));
        });
        sentence("P32: The first place (of numbers alone) at which a SHEET is not HAND of that JUG", () -> {
            JugMemory x = made(Sentences::sixJugs);
            x.sheet(0, 1, 6);
            due("1 is not 0", x.reads(0), 1);
            for (int i = 1; i < 6; i++) {
                due("not yet", x.reads(0), i);
                x.mark(0, i, i);
            }
            due("all are", x.reads(0), NONE);
            x.mark(0, 0, 1);
            due("the first is not", x.reads(0), 0);
            x.mark(0, 0, NONE);
            due("the first is no number", x.reads(0), NONE);
            x.mark(0, 5, 6);
            due("the last is not", x.reads(0), 5);
        });
        sentence("P32: (of places that are no JUG all numbers are not)", () -> {
            JugMemory x = made(Sentences::sixJugs);
            x.sheet(0, 1, 24);
            for (int i = 0; i < 24; i++) {
                x.mark(0, i, i < 6 ? i : NONE);
            }
            due("no numbers there", x.reads(0), NONE);
            x.mark(0, 23, 0);
            due("the last place", x.reads(0), 23);
            x.mark(0, 6, 0);
            due("the first that is no jug", x.reads(0), 6);
            due("without jugs", made(y -> y.sheet(0, 0, 1)).reads(0), 0);
        });
        sentence("P32: BAD; NOTHING; NONE: there is none.", () -> {
            for (int sheet : outside(3)) {
                leaves(Sentences::rich, "reads " + sheet, BAD, x -> x.reads(sheet));
            }
            leaves(Sentences::rich, "reads a missing one", NOTHING, x -> x.reads(3));
            leaves(Sentences::rich, "reads one of no places", NONE, x -> x.reads(2));
            leaves(x -> x.sheet(0, 0, 0), "reads one of no places, without jugs", NONE, x -> x.reads(0));
        });
    }

    private static void rows(JugMemory x) {
        rich(x);
        x.sheet(0, 0, 5);
        x.sheet(2, 0, 3);
        for (int i = 0; i < 5; i++) {
            x.mark(0, i, i + 1);
        }
    }

    private static void isRow(JugMemory x, int sheet, int... row) {
        x.lay(4, 2, sheet);
        for (int i = 0; i < row.length; i++) {
            due("place " + i, x.item(4, i), row[i]);
        }
        due("beyond", x.item(4, row.length), INDEX);
    }

    private static void copy() {
        sentence("P33: So many places of a SHEET come to another one: many", () -> {
            JugMemory x = made(PromiseBoundaries::rows);
            due("all that there is room for", x.copy(0, 2, 2, 0, 3), 3);
            isRow(x, 2, 3, 4, 5);
            due("one, the last", x.copy(0, 0, 2, 2, 1), 1);
            isRow(x, 2, 3, 4, 1);
            isRow(x, 0, 1, 2, 3, 4, 5);
        });
        sentence("P33: (or the same), as they were", () -> {
            JugMemory x = made(PromiseBoundaries::rows);
            due("up", x.copy(0, 0, 0, 1, 4), 4);
            isRow(x, 0, 1, 1, 2, 3, 4);
            JugMemory y = made(PromiseBoundaries::rows);
            due("down", y.copy(0, 1, 0, 0, 4), 4);
            isRow(y, 0, 2, 3, 4, 5, 5);
            due("all of it", y.copy(0, 0, 0, 0, 5), 5);
            isRow(y, 0, 2, 3, 4, 5, 5);
        });
        sentence("P33: NO NUMBER comes, too", () -> {
            JugMemory x = made(PromiseBoundaries::rows);
            due("copy", x.copy(1, 1, 1, 3, 1), 1);
            isRow(x, 1, 99, KIND, -3, KIND);
        });
        sentence("P33: many 0, up to the place behind the last one", () -> {
            leaves(PromiseBoundaries::rows, "within", 0, x -> x.copy(0, 1, 2, 1, 0));
            leaves(PromiseBoundaries::rows, "behind the last places", 0, x -> x.copy(0, 5, 2, 3, 0));
            leaves(PromiseBoundaries::rows, "further from", INDEX, x -> x.copy(0, 6, 2, 0, 0));
            leaves(PromiseBoundaries::rows, "further at", INDEX, x -> x.copy(0, 0, 2, 4, 0));
        });
        sentence("P33: BAD", () -> {
            for (int sheet : outside(3)) {
                leaves(PromiseBoundaries::rows, "from " + sheet, BAD, x -> x.copy(sheet, 0, 0, 0, 1));
                leaves(PromiseBoundaries::rows, "to " + sheet, BAD, x -> x.copy(0, 0, sheet, 0, 1));
                leaves(PromiseBoundaries::rows, "ahead of NOTHING, to " + sheet, BAD, x -> x.copy(3, 0, sheet, 0, 1));
                leaves(PromiseBoundaries::rows, "ahead of NOTHING, from " + sheet, BAD, x -> x.copy(sheet, 0, 3, 0, 1));
            }
        });
        sentence("P33: NOTHING, ahead of KIND and INDEX", () -> {
            leaves(PromiseBoundaries::rows, "from a missing one", NOTHING, x -> x.copy(3, 0, 0, 0, 1));
            leaves(PromiseBoundaries::rows, "to a missing one", NOTHING, x -> x.copy(0, 0, 3, 0, 1));
            leaves(PromiseBoundaries::rows, "from a missing one to itself", NOTHING, x -> x.copy(3, 0, 3, 0, 0));
            leaves(PromiseBoundaries::rows, "of floats to a missing one", NOTHING, x -> x.copy(1, 0, 3, 0, 1));
            leaves(PromiseBoundaries::rows, "from no place to a missing one", NOTHING, x -> x.copy(0, -1, 3, 0, 1));
        });
        sentence("P33: KIND: they are not of one sort, ahead of INDEX", () -> {
            leaves(PromiseBoundaries::rows, "shorts to floats", KIND, x -> x.copy(0, 0, 1, 0, 1));
            leaves(PromiseBoundaries::rows, "floats to shorts", KIND, x -> x.copy(1, 0, 0, 0, 1));
            leaves(PromiseBoundaries::rows, "none of them", KIND, x -> x.copy(1, 0, 0, 0, 0));
            leaves(PromiseBoundaries::rows, "from no place", KIND, x -> x.copy(1, -1, 0, 99, 1));
        });
        sentence("P33: INDEX", () -> {
            int[][] index = {{-1, 0, 1}, {LOW, 0, 1}, {5, 0, 1}, {HIGH, 0, 1}, {3, 0, 3}, {4, 0, 2}, {0, -1, 1}, {0, LOW, 1}, {0, 3, 1}, {0, HIGH, 1}, {0, 1, 3}, {0, 2, 2},
                {0, 0, 4}, {0, 0, 6}, {0, 0, HIGH}, {1, 1, HIGH}, {HIGH, HIGH, HIGH}, {0, 0, -1}, {0, 0, LOW}, {2, 2, -1}};
            for (int[] i : index) {
                leaves(PromiseBoundaries::rows, "from " + i[0] + " at " + i[1] + " many " + i[2], INDEX, x -> x.copy(0, i[0], 2, i[1], i[2]));
            }
        });
    }

    private static void lay() {
        sentence("P34: A SLOT holds: thing 0 .. 3: what it held (0 .. 3)", () -> {
            JugMemory x = made(Sentences::sixJugs);
            x.sheet(3, 0, 1);
            int[] k = {HIGH, 5, 3, LOW};
            int held = 0;
            for (int slot : new int[] {0, 4}) {
                held = 0;
                for (int thing : new int[] {0, 1, 2, 3, 3, 2, 1, 1, 0, 3, 0, 2, 2, 0}) {
                    due("lay " + thing + " on " + held, x.lay(slot, thing, k[thing]), held);
                    held = thing;
                }
            }
        });
        sentence("P34: BAD: slot, thing, k", () -> {
            for (int slot : outside(4)) {
                leaves(Sentences::rich, "slot " + slot, BAD, x -> x.lay(slot, 0, 0));
            }
            for (int thing : outside(3)) {
                leaves(Sentences::rich, "thing " + thing, BAD, x -> x.lay(0, thing, 0));
            }
            for (int slot = 0; slot < 5; slot++) {
                int on = slot;
                for (int k : outside(5)) {
                    leaves(Sentences::rich, "jug " + k, BAD, x -> x.lay(on, 1, k));
                }
                for (int k : outside(3)) {
                    leaves(Sentences::rich, "sheet " + k, BAD, x -> x.lay(on, 2, k));
                }
            }
        });
        sentence("P34: NOTHING: that SHEET is MISSING.", () -> {
            for (int slot = 0; slot < 5; slot++) {
                int on = slot;
                leaves(Sentences::rich, "a missing one", NOTHING, x -> x.lay(on, 2, 3));
            }
            due("one of no places is not missing", made(Sentences::rich).lay(4, 2, 2), 0);
        });
        sentence("P34: BAD stands ahead of NOTHING", () -> leaves(Sentences::rich, "a missing one on slot 5", BAD, x -> x.lay(5, 2, 3)));
    }

    private static void askItemRest() {
        sentence("P35: WORTH of the JUG in a SLOT, taken for one of a KIND (0 .. 5)", () -> {
            int[] worth = {10, 68, 7, 36, 11, 3};
            int[] above = {0, 0, 0, 1, 2, 0};
            for (int kind = 0; kind < 6; kind++) {
                JugMemory x = made(Sentences::sixJugs);
                x.lay(4, 1, kind);
                due("as it is", x.ask(4, kind), worth[kind]);
                due("as what is above it", x.ask(4, above[kind]), worth[kind]);
                due("as a jug", x.ask(4, 0), worth[kind]);
            }
        });
        sentence("P35: BAD, ahead of NOTHING and KIND", () -> {
            for (int slot : outside(4)) {
                leaves(Sentences::rich, "ask slot " + slot, BAD, x -> x.ask(slot, 0));
            }
            for (int kind : outside(5)) {
                leaves(Sentences::rich, "ask kind " + kind, BAD, x -> x.ask(0, kind));
                leaves(Sentences::rich, "ask kind " + kind + " of a number", BAD, x -> x.ask(2, kind));
                leaves(Sentences::rich, "ask kind " + kind + " of nothing", BAD, x -> x.ask(4, kind));
            }
        });
        sentence("P35: NOTHING", () -> leaves(Sentences::rich, "ask nothing", NOTHING, x -> x.ask(4, 0)));
        sentence("P35: KIND: it is no JUG, or not of that KIND, nor of one under it.", () -> {
            leaves(Sentences::rich, "ask a sheet", KIND, x -> x.ask(1, 0));
            leaves(Sentences::rich, "ask a number", KIND, x -> x.ask(2, 0));
            for (int kind : new int[] {2, 4, 5}) {
                leaves(Sentences::rich, "ask a cracked one for " + kind, KIND, x -> x.ask(0, kind));
            }
            JugMemory x = made(Sentences::sixJugs);
            x.lay(0, 1, 1);
            due("ask an heirloom for a cracked one", x.ask(0, 3), KIND);
        });
        sentence("P36: A place of the SHEET in a SLOT.", () -> {
            leaves(Sentences::rich, "the first", 7, x -> x.item(1, 0));
            leaves(Sentences::rich, "the last", 5, x -> x.item(1, 2));
            leaves(Sentences::rich, "the last of floats", 4, x -> x.item(3, 3));
        });
        sentence("P36: BAD: slot; NOTHING; KIND: it is no SHEET: each ahead of INDEX", () -> {
            for (int slot : outside(4)) {
                leaves(Sentences::rich, "item of slot " + slot, BAD, x -> x.item(slot, 0));
            }
            for (int place : new int[] {LOW, -1, 0, 24, HIGH}) {
                leaves(Sentences::rich, "item of nothing", NOTHING, x -> x.item(4, place));
                leaves(Sentences::rich, "item of a jug", KIND, x -> x.item(0, place));
                leaves(Sentences::rich, "item of a number", KIND, x -> x.item(2, place));
            }
        });
        sentence("P36: INDEX", () -> {
            for (int place : outside(2)) {
                leaves(Sentences::rich, "place " + place, INDEX, x -> x.item(1, place));
            }
            for (int place : outside(3)) {
                leaves(Sentences::rich, "place " + place + " of floats", INDEX, x -> x.item(3, place));
            }
            JugMemory x = made(Sentences::rich);
            x.lay(4, 2, 2);
            due("place 0 of none", x.item(4, 0), INDEX);
            x.sheet(2, 0, 24);
            x.lay(4, 2, 2);
            due("place 23 of 24", x.item(4, 23), 0);
            due("place 24 of 24", x.item(4, 24), INDEX);
        });
        sentence("P36: KIND: NO NUMBER", () -> leaves(Sentences::rich, "no number", KIND, x -> x.item(3, 1)));
        sentence("P37: The rest of the number in a SLOT by n.", () -> {
            int[][] rests = {{7, 3, 1}, {6, 3, 0}, {-7, 3, -1}, {7, -3, 1}, {-7, -3, -1}, {0, 5, 0}, {7, 1, 0}, {7, -1, 0}, {LOW, -1, 0}, {LOW, LOW, 0}, {HIGH, LOW, HIGH},
                {LOW, HIGH, -1}, {2, 3, 2}, {3, 3, 0}};
            for (int[] r : rests) {
                leaves(x -> x.lay(4, 3, r[0]), "rest of " + r[0] + " by " + r[1], r[2], x -> x.rest(4, r[1]));
            }
        });
        sentence("P37: BAD: slot; NOTHING; KIND: it is no number: each ahead of NO", () -> {
            for (int n : new int[] {0, 1}) {
                for (int slot : outside(4)) {
                    leaves(Sentences::rich, "rest of slot " + slot, BAD, x -> x.rest(slot, n));
                }
                leaves(Sentences::rich, "rest of nothing", NOTHING, x -> x.rest(4, n));
                leaves(Sentences::rich, "rest of a jug", KIND, x -> x.rest(0, n));
                leaves(Sentences::rich, "rest of a sheet", KIND, x -> x.rest(1, n));
            }
        });
        sentence("P37: NO: n is 0.", () -> {
            leaves(Sentences::rich, "by 0", NO, x -> x.rest(2, 0));
            leaves(x -> x.lay(0, 3, 0), "0 by 0", NO, x -> x.rest(0, 0));
            leaves(Sentences::rich, "by 1", 0, x -> x.rest(2, 1));
            leaves(Sentences::rich, "by -1", 0, x -> x.rest(2, -1));
        });
    }

    // ---- rows, images

    private static void thirtyDays(JugMemory x) {
        sixJugs(x);
        x.frost(30);
        textOf(x, "want b-m/2");
        x.keep();
        for (int day = 0; day < 30; day++) {
            x.days(1);
            x.tell(x.town(0));
            x.tell(x.town(3));
        }
    }

    private static int[] rowOf(int days) {
        JugMemory x = new JugMemory();
        sixJugs(x);
        x.frost(30);
        textOf(x, "want b-m/2");
        int[] row = new int[2 * days];
        for (int day = 0; day < days; day++) {
            x.days(1);
            row[2 * day] = x.town(0);
            row[2 * day + 1] = x.town(3);
        }
        return row;
    }

    /** A new object with the same image, to which a row was told, but for one place that is one more. */
    private static JugMemory told(int[] row, int many, int wrongAt) {
        JugMemory x = new JugMemory();
        sixJugs(x);
        x.frost(30);
        textOf(x, "want b-m/2");
        x.keep();
        for (int i = 0; i < many; i++) {
            x.tell(i == wrongAt ? row[i] + 1 : row[i]);
        }
        return x;
    }

    private static void tellAndCheck() {
        sentence("P38: One more number waits: how many.", () -> {
            JugMemory x = new JugMemory();
            for (int i = 1; i <= 60; i++) {
                due("tell", x.tell(i % 2 == 0 ? LOW : HIGH), i);
            }
            due("they wait", x.count(7), 60);
        });
        sentence("P38: FULL: 60 wait.", () -> {
            leaves(PromiseBoundaries::thirtyDays, "the sixty-first", FULL, x -> x.tell(5));
            JugMemory x = made(PromiseBoundaries::thirtyDays);
            x.tell(5);
            due("all sixty are right still", x.check(30), 0);
        });
        sentence("P39: The numbers that wait are THE DAYS TOLD of n (1 .. 30), two by two: 0", () -> {
            int[] row = rowOf(30);
            for (int n : new int[] {1, 2, 29, 30}) {
                due("check " + n, told(row, 2 * n, -1).check(n), 0);
            }
        });
        sentence("P39: else 1 and how many stand right ahead of the first that is not", () -> {
            int[] row = rowOf(30);
            for (int n : new int[] {1, 2, 30}) {
                for (int at = 0; at < 2 * n; at++) {
                    due("check " + n + ", wrong at " + at, told(row, 2 * n, at).check(n), 1 + at);
                }
            }
        });
        sentence("P39: (or is missing", () -> {
            int[] row = rowOf(30);
            for (int n : new int[] {1, 2, 30}) {
                for (int many = 0; many < 2 * n; many++) {
                    due("check " + n + " of " + many, told(row, many, -1).check(n), 1 + many);
                }
            }
        });
        sentence("P39: or is missing, though one that is right stood there in a row before", () -> {
            int[] row = rowOf(2);
            for (int many = 0; many < 4; many++) {
                JugMemory x = told(row, 4, -1);
                due("the row before", x.check(2), 0);
                for (int i = 0; i < many; i++) {
                    x.tell(row[i]);
                }
                due("check 2 of " + many, x.check(2), 1 + many);
            }
        });
        sentence("P39: or one too many)", () -> {
            int[] row = rowOf(30);
            for (int n : new int[] {1, 2, 29}) {
                due("one too many", told(row, 2 * n + 1, -1).check(n), 1 + 2 * n);
                due("two too many", told(row, 2 * n + 2, -1).check(n), 1 + 2 * n);
                due("one too many, though one ahead of it is wrong", told(row, 2 * n + 1, 0).check(n), 1);
            }
        });
        sentence("P39: (none do then, whatever is answered)", () -> {
            int[] row = rowOf(2);
            for (int n : new int[] {LOW, -1, 0, 1, 2, 30, 31, HIGH}) {
                JugMemory x = told(row, 4, -1);
                x.check(n);
                due("wait behind check " + n, x.count(7), 0);
                due("and nothing is right then", x.check(1), 1);
            }
            JugMemory x = new JugMemory();
            x.tell(5);
            due("without an image", x.check(1), NO);
            due("wait", x.count(7), 0);
            due("the next is the first", x.tell(6), 1);
        });
        sentence("P39: fewer, if THE DAY would be above 9999", () -> {
            int[][] rows = {{9997, 1, 1}, {9997, 2, 2}, {9997, 3, 2}, {9998, 2, 1}, {9999, 1, 0}, {9999, 30, 0}, {9969, 30, 30}, {9970, 30, 29}};
            for (int[] r : rows) {
                for (int more = 0; more < 2; more++) {
                    JugMemory x = new JugMemory();
                    toDay(x, r[0]);
                    oneThimble(x, 7, 2);
                    x.keep();
                    for (int day = 1; day <= r[2]; day++) {
                        x.tell(7 * day);
                        x.tell(7);
                    }
                    if (more == 1) {
                        x.tell(7 * r[2] + 7);
                    }
                    int due = x.count(7) > 2 * r[2] ? 1 + 2 * r[2] : 0;
                    due("check " + r[1] + " by " + r[0] + ", more " + more, x.check(r[1]), due);
                }
            }
        });
        sentence("P39: fewer by THE DAY of THE IMAGE, not by that of now", () -> {
            JugMemory x = new JugMemory();
            toDay(x, 9990);
            oneThimble(x, 7, 2);
            x.keep();
            x.days(9);
            for (int day = 1; day <= 9; day++) {
                x.tell(7 * day);
                x.tell(7);
            }
            due("check", x.check(30), 0);
        });
        sentence("P39: BAD; NO: there is no IMAGE.", () -> {
            Steps waiting = x -> {
                rich(x);
                x.check(2);
            };
            for (int n : new int[] {LOW, -1, 0, 31, HIGH}) {
                due("check " + n, made(Sentences::rich).check(n), BAD);
                due("check " + n + ", ahead of NO", new JugMemory().check(n), BAD);
                alike("check " + n + " changes nothing but the numbers that wait", waiting, x -> {
                    rich(x);
                    x.check(n);
                });
            }
            due("check 1 without an image", new JugMemory().check(1), NO);
            due("check 30 without an image", new JugMemory().check(30), NO);
            Steps withoutImage = x -> {
                sixJugs(x);
                onTape(x, "fee 1");
            };
            alike("a check without an image changes nothing", withoutImage, x -> {
                withoutImage.on(x);
                x.tell(5);
                x.check(1);
            });
        });
        sentence("P39: a check changes nothing but the numbers that wait", () -> alike("check", x -> {
            rich(x);
            x.check(2);
        }, x -> {
            rich(x);
            x.check(30);
        }));
    }

    private static void keepBackCount() {
        sentence("P40: AN IMAGE is kept: how many JUGS.", () -> {
            JugMemory x = new JugMemory();
            due("none", x.keep(), 0);
            tenJugs(x);
            due("ten", x.keep(), 10);
            due("back to the later one", x.back(), 10);
        });
        sentence("P40: AN IMAGE of none is one", () -> {
            JugMemory x = new JugMemory();
            x.keep();
            tenJugs(x);
            x.heart(0, 9);
            due("back", x.back(), 0);
            due("jugs", x.count(0), 0);
            due("heart", x.hand(0, 0), 3);
        });
        sentence("P40: keep changes nothing but THE IMAGE", () -> {
            JugMemory x = made(Sentences::rich);
            JugMemory y = made(Sentences::rich);
            y.keep();
            for (int what = 0; what < 10; what++) {
                due("count " + what, y.count(what), x.count(what));
            }
            due("the tape", y.text(), x.text());
        });
        sentence("P41: All is as THE IMAGE: how many JUGS.", () -> {
            JugMemory x = new JugMemory();
            x.frost(100);
            tenJugs(x);
            x.keep();
            for (int i = 0; i < 10; i++) {
                x.set(i, 1, 1);
            }
            x.frost(100);
            x.days(20);
            due("all are gone", x.count(0), 0);
            due("back", x.back(), 10);
            due("the last", x.told(9, 1), 99);
            due("its fills", x.told(9, 4), 0);
            due("the day", x.count(1), 0);
        });
        sentence("P41: NO: there is none.", () -> {
            leaves(Sentences::nothing, "of a new one", NO, JugMemory::back);
            leaves(x -> {
                sixJugs(x);
                x.days(3);
                textOf(x, "fee 1");
            }, "of one that kept none", NO, JugMemory::back);
        });
        sentence("P42: 0 .. 9", () -> {
            JugMemory x = made(Sentences::rich);
            int[] due = {6, 5, 20, x.town(0), x.town(1), 0, 3, 4, 8, x.seed(77)};
            x.seed(due[9]);
            for (int what = 0; what < 10; what++) {
                due("count " + what, x.count(what), due[what]);
            }
        });
        sentence("P42: BAD.", () -> {
            for (int what : outside(9)) {
                leaves(Sentences::rich, "count " + what, BAD, x -> x.count(what));
            }
        });
    }
}
