/** The head and the terms of the document: for each sentence that names a boundary, a test of its own. */
public final class TermsBoundaries extends Sentences {
    public static void main(String[] args) {
        head();
        handsAndHad();
        jugs();
        townAtFirst();
        filledTo();
        keeps();
        worth();
        dayFills();
        daySells();
        dayFrost();
        draws();
        mostOfSeveral();
        measures();
        enoughAndBest();
        onlyThought();
        like();
        texts();
        words();
        faults();
        values();
        sheets();
        slots();
        images();
        daysTold();
        end();
    }

    // ---- the head

    private static void head() {
        sentence("An object is used for at most 512 calls after it has been made", () -> {
            JugMemory x = new JugMemory();
            for (int call = 1; call <= 512; call++) {
                due("call " + call + ", seed", x.seed(call + 1), call);
            }
        });
        sentence("/ cuts towards 0", () -> {
            value("1/2", 0);
            value("2/2", 1);
            value("3/2", 1);
            value("(0-1)/2", 0);
            value("(0-2)/2", -1);
            value("(0-3)/2", -1);
            value("3/(0-2)", -1);
            value("(0-3)/(0-2)", 1);
        });
        sentence("Sets of JUGS are told by bits", () -> {
            JugMemory x = new JugMemory();
            for (int i = 0; i < 10; i++) {
                x.jug(0, 5, 1, 0);
            }
            due("a set of none", x.hand(0, 2), 0);
            due("a set of ten", x.hand(1, 2), 1023);
            x.gives(0, 2);
            x.gives(9, 3);
            due("the first alone", x.hand(2, 2), 1);
            due("the last alone", x.hand(3, 2), 512);
            due("all but both", x.hand(1, 2), 510);
        });
    }

    // ---- 1: hands, jugs

    private static void handsAndHad() {
        sentence("1: HANDS 0 .. 7", () -> {
            JugMemory x = new JugMemory();
            due("hand -1", x.hand(-1, 1), BAD);
            for (int hand = 0; hand < 8; hand++) {
                due("hand " + hand, x.hand(hand, 1), 0);
            }
            due("hand 8", x.hand(8, 1), BAD);
        });
        sentence("1: HEART (0 .. 9; 3 at first)", () -> {
            JugMemory x = new JugMemory();
            due("heart -1", x.heart(7, -1), BAD);
            due("heart 0, 3 at first", x.heart(7, 0), 3);
            due("heart 9", x.heart(7, 9), 0);
            due("heart 10", x.heart(7, 10), BAD);
            due("heart", x.hand(7, 0), 9);
        });
        sentence("1: HAD 9999, more is lost, as it is filled", () -> {
            for (int more = 98; more <= 101; more++) {
                JugMemory x = handWith9900();
                x.set(0, 1, more - 9);
                due("got, of which HAD may lose some", dayOf(x, 0, 6, -1), more);
                due("HAD 9900 and " + more, x.hand(6, 1), Math.min(9900 + more, 9999));
                due("GOT loses none", x.town(0), 9900 + more);
            }
        });
        sentence("1: HAD 9999, more is lost, as a jug is sold", () -> {
            for (int had = 9995; had <= 9999; had++) {
                JugMemory x = handWith9900();
                x.gives(9, 5);
                x.set(9, 1, 3);
                x.set(0, 1, had - 9908);
                due("got", dayOf(x, 0, 5, -1), had - 9900 + 3);
                due("sold", x.town(1), 1);
                due("the seller of " + had + ", for 3", x.hand(6, 1), Math.min(had + 3, 9999));
                due("the buyer", x.hand(5, 1), 0);
            }
        });
    }

    /** Ten thimbles of hand 6, which has 9900; but for the first they give 1 a day each from now on. */
    private static JugMemory handWith9900() {
        JugMemory x = new JugMemory();
        x.frost(0);
        for (int i = 0; i < 10; i++) {
            x.jug(5, 99, 6, 0);
        }
        for (int day = 0; day < 10; day++) {
            dayOf(x, 0, 6, -1);
        }
        for (int i = 1; i < 10; i++) {
            x.set(i, 1, 1);
        }
        return x;
    }

    private static void jugs() {
        sentence("1: JUGS, 10 at most, numbered from 0", () -> {
            JugMemory x = new JugMemory();
            for (int i = 0; i < 10; i++) {
                due("jug " + i, x.jug(0, 5, 0, 0), i);
            }
            due("the eleventh", x.jug(0, 5, 0, 0), FULL);
            due("how many", x.count(0), 10);
            due("jug -1", x.told(-1, 1), BAD);
            due("jug 9", x.told(9, 1), 5);
            due("jug 10", x.told(10, 1), BAD);
        });
        sentence("1: BRIM 1 .. 99", () -> {
            JugMemory x = new JugMemory();
            due("brim 0", x.jug(0, 0, 0, 0), BAD);
            due("brim 1", x.jug(0, 1, 0, 0), 0);
            due("brim 99", x.jug(0, 99, 0, 0), 1);
            due("brim 100", x.jug(0, 100, 0, 0), BAD);
        });
        sentence("1: MARK 0 .. BRIM", () -> {
            JugMemory x = new JugMemory();
            due("mark -1", x.jug(0, 7, 0, -1), BAD);
            due("mark 0", x.jug(0, 7, 0, 0), 0);
            due("mark 7", x.jug(0, 7, 0, 7), 1);
            due("mark 8", x.jug(0, 7, 0, 8), BAD);
        });
        sentence("1: FILLS (0 .. 99; 0 at first)", () -> {
            JugMemory x = made(y -> oneThimble(y, 9, 2));
            due("at first", x.told(0, 4), 0);
            x.set(0, 4, 97);
            for (int want : new int[] {98, 99, 99, 99}) {
                x.days(1);
                due("one more, 99 at most", x.told(0, 4), want);
            }
        });
        sentence("1: FILLS 99 at most: beyond it none has more than others", () -> {
            JugMemory x = new JugMemory();
            x.jug(5, 9, 2, 0);
            x.jug(5, 9, 2, 0);
            x.set(0, 4, 98);
            x.set(1, 4, 99);
            x.frost(100);
            x.days(1);
            due("the least", x.told(0, 1), 8);
            due("the other one", x.told(1, 1), 9);
        });
        sentence("1: KINDS: 0 JUG; 1 HEIRLOOM, 2 PAIL, 5 THIMBLE, under JUG; 3 CRACKED, under HEIRLOOM; 4 MISERS, under PAIL (all are JUGS)", () -> {
            int[][] of = {{1, 0, 0, 0, 0, 0}, {1, 1, 0, 0, 0, 0}, {1, 0, 1, 0, 0, 0}, {1, 1, 0, 1, 0, 0}, {1, 0, 1, 0, 1, 0}, {1, 0, 0, 0, 0, 1}};
            JugMemory x = new JugMemory();
            due("kind -1", x.jug(-1, 9, 0, 4), BAD);
            due("kind 6", x.jug(6, 9, 0, 4), BAD);
            for (int kind = 0; kind < 6; kind++) {
                due("kind " + kind, x.jug(kind, 9, 0, 4), kind);
                for (int k = 0; k < 6; k++) {
                    due(kind + " as " + k, x.as(kind, k), of[kind][k] == 1 ? 4 : KIND);
                }
            }
        });
    }

    private static void townAtFirst() {
        sentence("1: FROST 0 .. 100 (5 at first)", () -> {
            JugMemory x = new JugMemory();
            due("frost -1", x.frost(-1), BAD);
            due("frost 0, 5 at first", x.frost(0), 5);
            due("frost 100", x.frost(100), 0);
            due("frost 101", x.frost(101), BAD);
            due("frost", x.count(2), 100);
        });
        sentence("1: GOT, SOLD, BROKEN are 0 at first", () -> {
            JugMemory x = new JugMemory();
            for (int what = 0; what < 3; what++) {
                due("town " + what, x.town(what), 0);
            }
        });
        sentence("1: THE DAY is 0 at first, 9999 at most", () -> {
            JugMemory x = new JugMemory();
            due("at first", x.count(1), 0);
            toDay(x, 9998);
            due("the day", x.count(1), 9998);
            x.days(1);
            due("the day", x.count(1), 9999);
            x.days(1);
            due("no day more", x.count(1), 9999);
        });
    }

    // ---- 1: how far, what it keeps, what it is worth

    private static JugMemory jugOf(int kind, int brim, int mark, int heart, String want) {
        JugMemory x = new JugMemory();
        x.frost(0);
        x.jug(kind, brim, 6, mark);
        x.heart(6, heart);
        if (!want.isEmpty()) {
            due("text of want " + want, textOf(x, "want " + want), 0);
        }
        return x;
    }

    private static void to(int kind, int brim, int mark, String want, int due) {
        String of = "kind " + kind + ", brim " + brim + ", mark " + mark + ", want " + want;
        JugMemory x = jugOf(kind, brim, mark, 0, want);
        due(of + ": TO", x.told(0, 5), due);
        due(of + ": a day gives it", x.days(1), due);
    }

    private static void kept(int kind, int brim, int mark, int heart, int due) {
        String of = "kind " + kind + ", brim " + brim + ", mark " + mark + ", heart " + heart;
        JugMemory x = jugOf(kind, brim, mark, heart, "");
        due(of + ": KEEPS", x.told(0, 6), due);
        x.days(1);
        due(of + ": MARK behind a day", x.told(0, 2), due);
    }

    private static void worth(int kind, int brim, int mark, int due) {
        due("kind " + kind + ", brim " + brim + ", mark " + mark + ": WORTH", jugOf(kind, brim, mark, 3, "").told(0, 7), due);
    }

    private static void filledTo() {
        sentence("1: PLAIN want: what want gives, held within 0 and BRIM (without a TEXT: MARK)", () -> {
            to(0, 20, 20, "0-9", 0);
            to(0, 20, 20, "0-1", 0);
            to(0, 20, 20, "0", 0);
            to(0, 20, 20, "1", 1);
            to(0, 20, 20, "19", 19);
            to(0, 20, 20, "20", 20);
            to(0, 20, 20, "21", 20);
            to(0, 20, 20, "9999*9999*22", 0);
            to(0, 20, 20, "9999*9999*21", 20);
            to(2, 20, 20, "0-2", 1);
            to(4, 20, 20, "0-5", 0);
            to(1, 20, 20, "0-1", 0);
            to(3, 20, 20, "0-9", 0);
            to(0, 20, 13, "", 13);
        });
        sentence("1: TO, JUG: the lesser one of PLAIN and MARK", () -> {
            to(0, 20, 10, "9", 9);
            to(0, 20, 10, "10", 10);
            to(0, 20, 10, "11", 10);
            to(0, 20, 0, "20", 0);
        });
        sentence("1: TO, HEIRLOOM: as JUG, half (cut) of BRIM at most", () -> {
            to(1, 20, 9, "", 9);
            to(1, 20, 10, "", 10);
            to(1, 20, 11, "", 10);
            to(1, 21, 10, "", 10);
            to(1, 21, 11, "", 10);
            to(1, 1, 1, "", 0);
            to(1, 2, 2, "", 1);
            to(1, 3, 3, "", 1);
            to(1, 99, 99, "", 49);
            to(1, 20, 20, "9", 9);
        });
        sentence("1: TO, CRACKED: as HEIRLOOM, less a fifth (cut) of that", () -> {
            int[][] rows = {{0, 0}, {1, 1}, {4, 4}, {5, 4}, {6, 5}, {9, 8}, {10, 8}, {14, 12}, {15, 12}, {49, 40}, {50, 40}, {99, 40}};
            for (int[] r : rows) {
                to(3, 99, r[0], "", r[1]);
            }
            to(3, 1, 1, "", 0);
            to(3, 2, 2, "", 1);
        });
        sentence("1: TO, PAIL: as JUG, and 1 (BRIM at most)", () -> {
            to(2, 20, 0, "", 1);
            to(2, 20, 18, "", 19);
            to(2, 20, 19, "", 20);
            to(2, 20, 20, "", 20);
            to(2, 1, 0, "", 1);
            to(2, 1, 1, "", 1);
            to(2, 20, 20, "18", 19);
        });
        sentence("1: TO, MISERS: half (cut) of as PAIL", () -> {
            int[][] rows = {{0, 0}, {1, 1}, {2, 1}, {3, 2}, {18, 9}, {19, 10}, {20, 10}};
            for (int[] r : rows) {
                to(4, 20, r[0], "", r[1]);
            }
            to(4, 1, 1, "", 0);
            to(4, 2, 2, "", 1);
        });
        sentence("1: TO, THIMBLE: BRIM", () -> {
            to(5, 1, 0, "", 1);
            to(5, 99, 0, "", 99);
            to(5, 99, 99, "0", 99);
        });
    }

    private static void keeps() {
        sentence("1: KEEPS, JUG: TO and a third (cut) of HEART of its HAND", () -> {
            int[] more = {0, 0, 0, 1, 1, 1, 2, 2, 2, 3};
            for (int heart = 0; heart < 10; heart++) {
                kept(0, 20, 10, heart, 10 + more[heart]);
            }
        });
        sentence("1: KEEPS, JUG: (BRIM at most)", () -> {
            kept(0, 20, 16, 9, 19);
            kept(0, 20, 17, 9, 20);
            kept(0, 20, 18, 9, 20);
            kept(0, 20, 20, 9, 20);
            kept(0, 1, 0, 9, 1);
        });
        sentence("1: KEEPS, HEIRLOOM: as JUG, but no less than MARK", () -> {
            kept(1, 20, 10, 9, 13);
            kept(1, 20, 12, 9, 13);
            kept(1, 20, 13, 9, 13);
            kept(1, 20, 14, 9, 14);
            kept(1, 20, 20, 0, 20);
            kept(1, 4, 2, 9, 4);
            kept(1, 1, 1, 0, 1);
            kept(1, 1, 0, 0, 0);
        });
        sentence("1: KEEPS, CRACKED: as HEIRLOOM, less 1 (0 at least)", () -> {
            kept(3, 20, 0, 0, 0);
            kept(3, 20, 0, 3, 0);
            kept(3, 20, 0, 6, 1);
            kept(3, 20, 1, 0, 0);
            kept(3, 20, 2, 0, 1);
            kept(3, 20, 10, 9, 10);
            kept(3, 20, 20, 9, 19);
        });
        sentence("1: KEEPS, PAIL: TO", () -> {
            kept(2, 20, 5, 9, 6);
            kept(2, 20, 19, 9, 20);
            kept(2, 20, 20, 0, 20);
        });
        sentence("1: KEEPS, MISERS: as PAIL, less 1 (0 at least)", () -> {
            kept(4, 20, 0, 9, 0);
            kept(4, 20, 1, 9, 0);
            kept(4, 20, 2, 9, 0);
            kept(4, 20, 3, 9, 1);
            kept(4, 20, 20, 9, 9);
        });
        sentence("1: KEEPS, THIMBLE: BRIM", () -> {
            kept(5, 1, 0, 0, 1);
            kept(5, 99, 0, 9, 99);
        });
    }

    private static void worth() {
        sentence("1: WORTH, JUG: MARK. HEIRLOOM: as JUG, and 40", () -> {
            worth(0, 99, 0, 0);
            worth(0, 99, 99, 99);
            worth(1, 99, 0, 40);
            worth(1, 99, 99, 139);
        });
        sentence("1: WORTH, CRACKED: half (cut) of as HEIRLOOM", () -> {
            worth(3, 99, 0, 20);
            worth(3, 99, 1, 20);
            worth(3, 99, 2, 21);
            worth(3, 99, 99, 69);
        });
        sentence("1: WORTH, PAIL: BRIM less MARK", () -> {
            worth(2, 99, 0, 99);
            worth(2, 99, 98, 1);
            worth(2, 99, 99, 0);
        });
        sentence("1: WORTH, MISERS: as PAIL, less 5 (0 at least)", () -> {
            worth(4, 20, 20, 0);
            worth(4, 20, 16, 0);
            worth(4, 20, 15, 0);
            worth(4, 20, 14, 1);
            worth(4, 20, 0, 15);
        });
        sentence("1: WORTH, THIMBLE: 3", () -> {
            worth(5, 1, 0, 3);
            worth(5, 99, 99, 3);
        });
    }

    // ---- 2: a day

    private static void dayFills() {
        sentence("2: (1) JUGS by numbers: each is filled, the first and the last, too", () -> {
            JugMemory x = new JugMemory();
            x.frost(0);
            for (int i = 0; i < 10; i++) {
                x.jug(2, 99, i % 8, 10 * (i > 8 ? 8 : i));
            }
            due("got", dayOf(x, 0, 0, -1), 360 + 80 + 10);
            for (int i = 0; i < 10; i++) {
                due("mark of " + i, x.told(i, 2), 10 * (i > 8 ? 8 : i) + 1);
                due("fills of " + i, x.told(i, 4), 1);
            }
            for (int hand = 0; hand < 8; hand++) {
                due("had of " + hand, x.hand(hand, 1), 10 * hand + 1 + (hand < 2 ? 81 : 0));
            }
        });
        sentence("2: THE DAY is 1 more: behind what is filled by it", () -> {
            JugMemory x = new JugMemory();
            x.frost(0);
            x.jug(5, 1, 1, 0);
            x.jug(0, 50, 0, 50);
            textOf(x, "want n*10+5");
            due("the first day", dayOf(x, 0, 1, -1), 6);
            x.set(1, 2, 50);
            due("the second day", dayOf(x, 0, 1, -1), 16);
            due("the day", x.count(1), 2);
        });
    }

    private static void daySells() {
        sentence("2: (2) If there are JUGS, two draws", () -> {
            JugMemory x = new JugMemory();
            x.days(1);
            due("one draw without jugs", x.count(9), stepped(1, 1));
            x.jug(5, 9, 0, 0);
            x.days(1);
            due("three with one", x.count(9), stepped(1, 4));
            x.deal(9);
            x.seed(1);
            x.days(1);
            due("three with ten", x.count(9), stepped(1, 3));
        });
        sentence("2: the JUG that is the rest of the first by how many there are, the HAND that is the rest of the second by 8", () -> {
            for (int jugs : new int[] {1, 2, 10}) {
                for (int jug : new int[] {0, jugs - 1}) {
                    for (int hand : new int[] {0, 1, 7}) {
                        JugMemory x = new JugMemory();
                        x.frost(0);
                        for (int i = 0; i < jugs; i++) {
                            x.jug(2, 9, 3, 9);
                        }
                        dayOf(x, jug, hand, -1);
                        due("sold, of " + jugs, x.hand(hand, 2), 1 << jug);
                        due("how many", x.town(1), 1);
                    }
                }
            }
        });
        sentence("2: if it is not that one's", () -> {
            JugMemory x = new JugMemory();
            x.frost(0);
            x.jug(5, 9, 3, 0);
            dayOf(x, 0, 3, -1);
            due("sold to whose it is", x.town(1), 0);
            due("had", x.hand(3, 1), 9);
        });
        sentence("2: and HAD of that one is WORTH or more", () -> {
            for (int had = 39; had <= 41; had++) {
                JugMemory x = new JugMemory();
                x.frost(0);
                x.heart(1, 0);
                x.jug(1, 10, 1, 0);
                x.jug(5, had, 2, 0);
                dayOf(x, 0, 2, -1);
                boolean sold = had >= 40;
                due("sold for 40 to one who has " + had, x.town(1), sold ? 1 : 0);
                due("whose", x.told(0, 3), sold ? 2 : 1);
                due("the buyer", x.hand(2, 1), sold ? had - 40 : had);
                due("the seller", x.hand(1, 1), sold ? 40 : 0);
            }
        });
        sentence("2: HAD of that one is WORTH or more: 0 is as much as 0", () -> {
            JugMemory x = new JugMemory();
            x.frost(0);
            x.jug(2, 7, 0, 7);
            dayOf(x, 0, 5, -1);
            due("sold for 0", x.town(1), 1);
            due("whose", x.told(0, 3), 5);
            JugMemory y = new JugMemory();
            y.frost(0);
            y.jug(2, 7, 0, 5);
            dayOf(y, 0, 5, -1);
            due("not sold for 1", y.town(1), 0);
        });
    }

    private static void dayFrost() {
        sentence("2: (3) A draw; if its rest by 100 is below FROST", () -> {
            int[][] rows = {{0, 0, 0}, {1, 0, 1}, {1, 1, 0}, {50, 49, 1}, {50, 50, 0}, {99, 98, 1}, {99, 99, 0}, {100, 99, 1}};
            for (int[] r : rows) {
                JugMemory x = new JugMemory();
                x.frost(r[0]);
                x.jug(5, 9, 0, 0);
                dayOf(x, 0, 0, r[1]);
                due("frost " + r[0] + ", rest " + r[1], x.town(2), r[2]);
                due("its brim", x.told(0, 1), 9 - r[2]);
            }
        });
        sentence("2: (and there are JUGS)", () -> {
            JugMemory x = new JugMemory();
            x.frost(100);
            x.days(100);
            due("broken of none", x.town(2), 0);
            due("jugs", x.count(0), 0);
            due("a draw a day", x.count(9), stepped(1, 100));
        });
        sentence("2: of the JUG with most FILLS (of several the least)", () -> {
            int[][] rows = {{0, 0, 0, 0}, {0, 1, 1, 1}, {0, 0, 1, 2}, {1, 0, 1, 0}, {97, 98, 97, 1}, {98, 98, 98, 0}};
            for (int[] r : rows) {
                JugMemory x = new JugMemory();
                x.frost(100);
                for (int i = 0; i < 3; i++) {
                    x.jug(5, 9, 0, 0);
                    x.set(i, 4, r[i]);
                }
                x.days(1);
                for (int i = 0; i < 3; i++) {
                    due("fills " + r[0] + ", " + r[1] + ", " + r[2] + ": brim of " + i, x.told(i, 1), i == r[3] ? 8 : 9);
                }
            }
        });
        sentence("2: BRIM is 1 less, MARK BRIM at most (BROKEN 1 more)", () -> {
            for (int mark = 6; mark <= 10; mark++) {
                JugMemory x = new JugMemory();
                x.frost(100);
                x.jug(2, 10, 0, mark);
                x.days(1);
                due("brim", x.told(0, 1), 9);
                due("mark " + mark + ", filled 1 more", x.told(0, 2), Math.min(mark + 1, 9));
                due("broken", x.town(2), 1);
            }
        });
        sentence("2: if BRIM were 0, it is gone", () -> {
            for (int brim = 1; brim <= 2; brim++) {
                JugMemory x = new JugMemory();
                x.frost(100);
                x.jug(5, brim, 0, 0);
                due("got", x.days(1), brim);
                due("jugs of brim " + brim, x.count(0), brim - 1);
                due("its brim", x.told(0, 1), brim == 1 ? BAD : 1);
                due("broken, gone or not", x.town(2), 1);
            }
        });
        sentence("2: those behind it have numbers 1 less", () -> {
            for (int gone = 0; gone < 10; gone++) {
                JugMemory x = new JugMemory();
                x.frost(100);
                for (int i = 0; i < 10; i++) {
                    x.jug(5, i == gone ? 1 : 20 + i, 3, 0);
                }
                x.set(gone, 4, 50);
                dayOf(x, 0, 3, -1);
                due("jugs", x.count(0), 9);
                for (int i = 0; i < 9; i++) {
                    due("the one of " + gone + " is gone: " + i, x.told(i, 1), 20 + (i < gone ? i : i + 1));
                }
                due("the last number", x.told(9, 1), BAD);
                due("their set", x.hand(3, 2), 511);
                x.frost(0);
                due("what nine give on the next day", dayOf(x, 0, 3, -1), 245 - 20 - gone);
            }
        });
        sentence("2: those behind it have numbers 1 less, with all that they are", () -> {
            JugMemory x = new JugMemory();
            x.frost(100);
            x.jug(5, 1, 0, 0);
            x.jug(3, 40, 6, 30);
            x.set(0, 4, 9);
            x.set(1, 4, 4);
            x.heart(6, 0);
            dayOf(x, 0, 0, -1);
            int[] due = {3, 40, 29, 6, 5};
            for (int what = 0; what < 5; what++) {
                due("what " + what, x.told(0, what), due[what]);
            }
        });
    }

    private static void draws() {
        sentence("2: z is told (1 at first)", () -> due("z", new JugMemory().count(9), 1));
        sentence("2: z becomes z * 1103515245 + 12345 (an int)", () -> {
            for (int z : new int[] {0, 1, -1, 2, HIGH, LOW, 1946}) {
                JugMemory x = new JugMemory();
                x.seed(z);
                x.days(1);
                due("z behind " + z, x.count(9), (int) ((long) z * 1103515245L + 12345L));
            }
        });
        sentence("2: it gives z >>> 8: never below 0", () -> {
            for (int seed = 0; seed < 40; seed++) {
                JugMemory x = new JugMemory();
                x.seed(seed);
                x.deal(1);
                due("kind by z " + stepped(seed, 1), x.told(0, 0), (int) ((stepped(seed, 1) & 0xFFFFFFFFL) / 256 % 6));
                due("hand by z " + stepped(seed, 3), x.told(0, 3), (int) ((stepped(seed, 3) & 0xFFFFFFFFL) / 256 % 8));
            }
        });
        sentence("2: JUGS that are drawn: KIND the rest of a draw by 6, BRIM that of one more by 40, and 1, MARK that of one more by BRIM and 1", () -> {
            int[][] rows = {{0, 1, 0}, {5, 1, 1}, {0, 40, 0}, {5, 40, 40}};
            for (int[] r : rows) {
                int seed = 0;
                while (drawn(stepped(seed, 1)) % 6 != r[0] || drawn(stepped(seed, 2)) % 40 != r[1] - 1 || drawn(stepped(seed, 4)) % (r[1] + 1) != r[2]) {
                    seed++;
                }
                JugMemory x = new JugMemory();
                x.seed(seed);
                due("deal", x.deal(1), 1);
                due("kind", x.told(0, 0), r[0]);
                due("brim", x.told(0, 1), r[1]);
                due("mark", x.told(0, 2), r[2]);
            }
        });
        sentence("2: JUGS that are drawn: HAND that of one more by 8", () -> {
            for (int hand : new int[] {0, 7}) {
                int seed = 0;
                while (drawn(stepped(seed, 3)) % 8 != hand) {
                    seed++;
                }
                JugMemory x = new JugMemory();
                x.seed(seed);
                x.deal(1);
                due("hand", x.told(0, 3), hand);
            }
        });
    }

    // ---- 3: what is most, what is measured, what will be

    private static void mostOfSeveral() {
        sentence("3: RICHEST: the HAND of most HAD; of several the least", () -> {
            due("all have 0", new JugMemory().town(4), 0);
            int[][] rows = {{0, 7, 5, 5, 0}, {0, 7, 5, 6, 7}, {0, 7, 6, 5, 0}, {3, 4, 5, 5, 3}, {3, 4, 5, 6, 4}};
            for (int[] r : rows) {
                JugMemory x = new JugMemory();
                x.frost(0);
                x.jug(5, r[2], r[0], 0);
                x.jug(5, r[3], r[1], 0);
                dayOf(x, 0, r[0], -1);
                due("richest of " + r[0] + " with " + r[2] + " and " + r[1] + " with " + r[3], x.town(4), r[4]);
            }
            for (int hand = 0; hand < 8; hand++) {
                JugMemory x = new JugMemory();
                oneThimble(x, 5, hand);
                x.days(1);
                due("richest, if he alone has some", x.town(4), hand);
            }
        });
        sentence("3: BEST: the JUG of most WORTH; of several the least", () -> {
            JugMemory x = new JugMemory();
            for (int i = 0; i < 10; i++) {
                x.jug(0, 9, 0, 4);
            }
            due("all are worth 4", x.town(5), 0);
            x.set(9, 2, 5);
            due("the last is worth 5", x.town(5), 9);
            x.set(5, 2, 5);
            due("two are worth 5", x.town(5), 5);
            x.set(0, 2, 5);
            due("three are worth 5", x.town(5), 0);
            JugMemory y = new JugMemory();
            y.jug(0, 9, 0, 0);
            due("one that is worth 0", y.town(5), 0);
        });
    }

    private static void measure(int brim, int other, int v, int due) {
        JugMemory x = new JugMemory();
        x.jug(0, brim, 0, brim);
        x.jug(5, other, 1, 0);
        due(v + " by " + brim + " and " + other, x.measure(0, 1, v), due);
        due(v + " by " + other + " and " + brim, x.measure(1, 0, v), due);
    }

    private static void measures() {
        sentence("3: MEASURE: both being empty at first: 0 without a step", () -> {
            measure(1, 1, 0, 0);
            measure(99, 98, 0, 0);
            measure(1, 1, 1, 1);
        });
        sentence("3: MEASURE: by a step one is filled to its BRIM", () -> {
            measure(3, 5, 3, 1);
            measure(3, 5, 5, 1);
            measure(3, 5, 6, NONE);
            measure(99, 1, 99, 1);
            measure(5, 5, 5, 1);
            measure(5, 5, 4, NONE);
        });
        sentence("3: MEASURE: poured into the other one, till that is full or itself empty", () -> {
            measure(3, 5, 2, 2);
            measure(3, 5, 1, 4);
            measure(3, 5, 4, 6);
            measure(4, 6, 2, 2);
            measure(4, 6, 3, NONE);
            measure(1, 99, 98, 2);
            measure(1, 99, 2, 4);
            measure(1, 2, 2, 1);
        });
        sentence("3: MEASURE: the fewest steps, to the longest way", () -> {
            measure(99, 98, 1, 2);
            measure(99, 98, 50, 192);
            measure(99, 98, 49, 194);
            measure(97, 98, 49, 192);
        });
    }

    private static void enoughAndBest() {
        sentence("3: ENOUGH: behind how many DAYS (0 .. 200) HAD is v or more first", () -> {
            JugMemory x = made(y -> oneThimble(y, 1, 2));
            int[][] rows = {{0, 0}, {1, 1}, {2, 2}, {199, 199}, {200, 200}, {201, NONE}};
            for (int[] r : rows) {
                due("enough of 1 a day for " + r[0], x.enough(2, r[0]), r[1]);
            }
            JugMemory y = made(z -> oneThimble(z, 7, 2));
            due("7, for 6", y.enough(2, 6), 1);
            due("7, for 7", y.enough(2, 7), 1);
            due("7, for 8", y.enough(2, 8), 2);
        });
        sentence("3: ENOUGH: first, though it is less again later", () -> {
            JugMemory x = new JugMemory();
            x.frost(0);
            x.jug(1, 99, 2, 99);
            x.jug(5, 40, 1, 0);
            int seed = 0;
            // 160 behind four days, of which the heirloom takes 139
            do {
                x.seed(seed);
                seed++;
            } while (seed < 100 && (x.behind(3, 5) != 120 || x.behind(4, 5) != 21));
            due("behind 3 days", x.behind(3, 5), 120);
            due("behind 4 days", x.behind(4, 5), 21);
            due("enough for 81", x.enough(1, 81), 3);
            due("enough for 120", x.enough(1, 120), 3);
            due("enough for 121", x.enough(1, 121) > 4 ? 1 : 0, 1);
        });
        sentence("3: HEIR: of several the least", () -> {
            JugMemory x = new JugMemory();
            x.frost(0);
            x.jug(0, 99, 4, 0);
            for (int hand = 0; hand < 8; hand++) {
                x.heart(hand, hand >= 6 ? 9 : 0);
            }
            due("none gives more in a day", x.heir(0, 1, 0), 0);
            due("so much", x.heir(0, 1, 1), 0);
            due("the hands 6 and 7 do in two", x.heir(0, 2, 0), 6);
            due("so much", x.heir(0, 2, 1), 3);
            x.heart(6, 8);
            due("the hand 7 does", x.heir(0, 2, 0), 7);
        });
        sentence("3: HEARTS: of several the least", () -> {
            JugMemory x = new JugMemory();
            x.frost(0);
            x.jug(0, 99, 4, 0);
            due("none gives more in a day", x.hearts(4, 1, 0), 0);
            due("9 does in two", x.hearts(4, 2, 0), 9);
            due("so much", x.hearts(4, 2, 1), 3);
            x.set(0, 1, 2);
            due("6 fills a brim of 2 as well", x.hearts(4, 2, 0), 6);
            due("so much", x.hearts(4, 2, 1), 2);
            due("a hand that has no jug", x.hearts(7, 60, 0), 0);
        });
        sentence("3: HEARTS: the HEART is 0 .. 9", () -> {
            JugMemory x = new JugMemory();
            x.frost(0);
            x.jug(0, 99, 4, 99);
            textOf(x, "want h*2");
            due("the more the better", x.hearts(4, 1, 0), 9);
            due("so much", x.hearts(4, 1, 1), 18);
            textOf(x, "want 50-h");
            due("the less the better", x.hearts(4, 1, 0), 0);
            due("so much", x.hearts(4, 1, 1), 50);
        });
        sentence("3: BECOMES: of several the least", () -> {
            JugMemory x = new JugMemory();
            x.frost(0);
            x.jug(4, 10, 4, 10);
            due("a full one is as good as a jug", x.becomes(0, 1, 0), 0);
            due("so much", x.becomes(0, 1, 1), 10);
            x.set(0, 2, 0);
            due("an empty one is best as a thimble", x.becomes(0, 1, 0), 5);
            x.set(0, 1, 1);
            due("of brim 1 it is as good as a pail", x.becomes(0, 1, 0), 2);
            due("so much", x.becomes(0, 1, 1), 1);
        });
    }

    private static void lastDay(JugMemory x) {
        rich(x);
        x.frost(0);
        toDay(x, 9999);
        x.frost(20);
        x.sheet(0, 0, 24);
    }

    private static void onlyThought() {
        sentence("3: z as it is: what is thought is what comes", () -> {
            JugMemory x = made(Sentences::rich);
            int[] thought = {x.behind(100, 0), x.behind(100, 1), x.behind(100, 2), x.behind(100, 3), x.behind(100, 4), x.behind(100, 11)};
            x.days(100);
            int[] came = {x.town(0), x.town(1), x.town(2), x.count(0), x.hand(0, 1), x.hand(7, 1)};
            for (int i = 0; i < came.length; i++) {
                due("what " + i, thought[i], came[i]);
            }
        });
        sentence("3: without the bound of THE DAY", () -> {
            JugMemory x = new JugMemory();
            toDay(x, 9999);
            oneThimble(x, 2, 2);
            due("no day comes", x.days(5), 0);
            due("behind 100", x.behind(100, 0), 200);
            due("enough", x.enough(2, 400), 200);
            due("enough", x.enough(2, 401), NONE);
            due("heir", x.heir(0, 60, 1), 120);
            due("hearts", x.hearts(2, 60, 1), 120);
            due("becomes", x.becomes(0, 60, 1), 120);
            x.turns(0, 2);
            x.set(0, 1, 99);
            x.sheet(0, 0, 24);
            for (int k = 0; k < 24; k++) {
                x.mark(0, k, k);
            }
            due("like", x.like(0, 1), 0);
            due("the day", x.count(1), 9999);
        });
        sentence("3: without the bound of THE DAY: n goes on, too", () -> {
            JugMemory x = new JugMemory();
            toDay(x, 9999);
            x.frost(0);
            x.jug(0, 50, 2, 50);
            x.heart(2, 9);
            textOf(x, "want (n-9999)*3");
            due("behind 0, 3, 6", x.behind(3, 0), 0 + 3 + 6);
        });
        sentence("3: (All that follows is only thought: nothing changes.)", () -> {
            Steps[] towns = {Sentences::rich, TermsBoundaries::lastDay};
            for (Steps town : towns) {
                JugMemory x = made(town);
                leaves(town, "behind", x.behind(100, 0), y -> y.behind(100, 0));
                leaves(town, "enough", x.enough(7, 9999), y -> y.enough(7, 9999));
                leaves(town, "heir", x.heir(1, 60, 0), y -> y.heir(1, 60, 0));
                leaves(town, "hearts", x.hearts(7, 60, 0), y -> y.hearts(7, 60, 0));
                leaves(town, "becomes", x.becomes(1, 60, 0), y -> y.becomes(1, 60, 0));
                leaves(town, "like", x.like(0, 0), y -> y.like(0, 0));
                leaves(town, "measure", x.measure(0, 1, 7), y -> y.measure(0, 1, 7));
            }
        });
    }

    private static void like() {
        sentence("3: LIKE: places k (k from 0 on): MARK behind k DAYS", () -> {
            JugMemory x = new JugMemory();
            x.frost(0);
            x.jug(2, 99, 0, 3);
            x.sheet(0, 1, 24);
            for (int k = 0; k < 24; k++) {
                x.mark(0, k, 3 + k);
            }
            due("none differs", x.like(0, 1), 0);
            x.mark(0, 0, 4);
            due("the first place", x.like(0, 1), 1);
            x.mark(0, 23, 24);
            due("the last place", x.like(0, 1), 3);
        });
        sentence("3: LIKE: (by its number; 0 if there are fewer)", () -> {
            JugMemory x = new JugMemory();
            x.frost(100);
            x.jug(5, 1, 0, 1);
            x.jug(5, 30, 0, 30);
            x.sheet(0, 0, 2);
            x.mark(0, 0, 1);
            x.mark(0, 1, 30);
            due("the first is the one that was second, behind a day", x.like(0, 0), 0);
            due("none differs", x.like(0, 1), 0);
            x.mark(0, 0, 30);
            x.mark(0, 1, 0);
            due("the second is none behind a day: 0", x.like(0, 0), 1);
            due("none differs", x.like(0, 1), 0);
        });
        sentence("3: LIKE: places that are numbers", () -> {
            JugMemory x = made(y -> y.jug(0, 20, 0, 10));
            x.sheet(0, 1, 1);
            x.mark(0, 0, 13);
            due("a number", x.like(0, 1), 3);
            x.mark(0, 0, NONE);
            due("no number", x.like(0, 1), 0);
            x.sheet(0, 1, 0);
            due("no places", x.like(0, 1), 0);
        });
        sentence("3: LIKE: differ least (signs left out), together", () -> {
            JugMemory x = made(y -> y.jug(5, 99, 0, 99));
            x.frost(0);
            x.sheet(0, 1, 24);
            for (int k = 0; k < 24; k++) {
                x.mark(0, k, k % 2 == 0 ? -99999 : 99999);
            }
            due("24 of the widest", x.like(0, 1), 12 * (99999 + 99) + 12 * (99999 - 99));
        });
        sentence("3: LIKE: of several the least", () -> {
            JugMemory x = new JugMemory();
            for (int i = 0; i < 10; i++) {
                x.jug(0, 20, 0, i == 9 ? 6 : 10);
            }
            x.sheet(0, 0, 1);
            x.mark(0, 0, 8);
            due("all differ by 2", x.like(0, 0), 0);
            x.mark(0, 0, 7);
            due("the last differs by 1", x.like(0, 0), 9);
            x.mark(0, 0, 9);
            due("all but the last differ by 1", x.like(0, 0), 0);
            due("by 1", x.like(0, 1), 1);
        });
    }

    // ---- 4: texts

    private static void texts() {
        sentence("4: TEXTS, 14 at most, numbered from 0", () -> {
            JugMemory x = new JugMemory();
            for (int i = 0; i < 14; i++) {
                due("text " + i, textOf(x, "fee " + i), i);
            }
            due("the fifteenth", textOf(x, "fee 77"), FULL);
            due("texts", x.count(6), 14);
            due("text 13", x.textTold(13, 0), 1);
            due("text 14", x.textTold(14, 0), BAD);
            due("text -1", x.textTold(-1, 0), BAD);
        });
        sentence("4: THE TAPE (96 bytes at most", () -> {
            JugMemory x = new JugMemory();
            for (int i = 1; i <= 8; i++) {
                due("feed", x.feed(0, 0, 0), 12 * i);
            }
            due("beyond", x.feed(0, 0, 0), FULL);
            due("bytes", x.count(8), 96);
        });
        sentence("4: an act that reads it uses it up, whatever it answers", () -> {
            JugMemory x = new JugMemory();
            for (int i = 0; i < 14; i++) {
                textOf(x, "fee 1");
                due("used up by a text", x.count(8), 0);
            }
            due("full", textOf(x, "fee 1"), FULL);
            due("used up by one too many", x.count(8), 0);
            due("a fault", textOf(x, "fee 1+"), -106);
            due("used up by a fault", x.count(8), 0);
            due("and the next reads nothing", x.text(), -100);
        });
        sentence("4: KEY: want | fee | fine", () -> {
            isText("want 1");
            isText("fee 1");
            isText("fine 1");
            for (String key : new String[] {"wan", "wants", "fe", "fees", "fin", "fines", "find", "fane", "vant", "gee", "f", "w", "Want", "x"}) {
                fault(key + " 1", 0);
            }
        });
        sentence("4: TEST: SUM [ (< | = | >) SUM ]", () -> {
            isText("fee 1");
            for (String sign : new String[] {"<", "=", ">"}) {
                isText("fee 1" + sign + "2");
                fault("fee 1" + sign + "2" + sign + "3", 7);
                isText("fee 1" + sign + "2&3" + sign + "4");
                isText("fee (1" + sign + "2)" + sign + "3");
            }
            fault("fee 1<2=3", 7);
            fault("fee (1>2<3)", 8);
        });
        sentence("4: NUMBER (1 to 4 digits)", () -> {
            isText("fee 0");
            isText("fee 9999");
            isText("fee 0000");
            fault("fee 10000", 4);
            fault("fee 00000", 4);
            fault("fee 1+10000", 6);
            value("0", 0);
            value("9", 9);
            value("9999", 9999);
            value("0009", 9);
        });
        sentence("4: NAMES, each one letter: of want m, b, h, n; of fee g, s; of fine m, b", () -> {
            String[] keys = {"want", "fee", "fine"};
            String[] names = {"mbhn", "gs", "mb"};
            for (int key = 0; key < 3; key++) {
                for (char letter = 'a'; letter <= 'z'; letter++) {
                    if (names[key].indexOf(letter) >= 0) {
                        isText(keys[key] + " " + letter);
                    } else {
                        fault(keys[key] + " " + letter, keys[key].length() + 1);
                    }
                }
                fault(keys[key] + " " + names[key].substring(0, 2), keys[key].length() + 1);
            }
        });
        sentence("4: NAMES of want: m MARK, b BRIM, h HEART of its HAND, n THE DAY", () -> {
            String[] names = {"m/2", "b/2", "h/2", "n/2"};
            int[] due = {40, 49, 4, 7};
            for (int i = 0; i < 4; i++) {
                JugMemory x = new JugMemory();
                toDay(x, 15);
                x.jug(0, 99, 6, 80);
                x.heart(6, 8);
                textOf(x, "want " + names[i]);
                due("by " + names[i], x.told(0, 5), due[i]);
                due("and of what is thought", x.behind(1, 0), due[i]);
            }
        });
        sentence("4: NAMES of want: of each JUG and its HAND by itself", () -> {
            JugMemory x = new JugMemory();
            x.jug(0, 99, 6, 80);
            x.jug(0, 98, 7, 81);
            x.heart(6, 9);
            textOf(x, "want h");
            due("the first", x.told(0, 5), 9);
            due("the second", x.told(1, 5), 3);
            due("both", x.behind(1, 0), 12);
            textOf(x, "want b-m");
            due("the first", x.told(0, 5), 19);
            due("the second", x.told(1, 5), 17);
            due("both", x.behind(1, 0), 36);
        });
        sentence("4: (what fee gives is told by fee(); without a TEXT: GOT)", () -> {
            JugMemory x = made(y -> oneThimble(y, 9, 2));
            x.days(1);
            due("without", x.fee(), 9);
            textOf(x, "fine 5");
            textOf(x, "want 5");
            due("without one of its own", x.fee(), 9);
            textOf(x, "fee g-10");
            due("with one", x.fee(), -1);
        });
        sentence("4: (what fine gives for a JUG is told by fine(); without a TEXT: MARK)", () -> {
            JugMemory x = made(y -> y.jug(0, 20, 0, 13));
            due("without", x.fine(0), 13);
            textOf(x, "fee 5");
            textOf(x, "want 5");
            due("without one of its own", x.fine(0), 13);
            textOf(x, "fine m-b*2");
            due("with one, not held", x.fine(0), -27);
        });
        sentence("4: Of a KEY that TEXT counts that was told last", () -> {
            JugMemory x = new JugMemory();
            for (int i = 0; i < 14; i++) {
                textOf(x, "fee " + i);
                due("the last", x.fee(), i);
                due("its number", x.why(1), i);
            }
            textOf(x, "fee 77");
            due("one too many does not count", x.fee(), 13);
            JugMemory y = new JugMemory();
            textOf(y, "fee 5");
            textOf(y, "fee 6 6");
            due("one with a fault does not count", y.fee(), 5);
        });
    }

    private static void words() {
        sentence("4: A word is a row of letters a .. z, or of digits; any other byte is a sign by itself", () -> {
            for (int b = 0; b < 256; b++) {
                char sign = (char) b;
                boolean fits = sign >= '0' && sign <= '9' || sign == 'g' || sign == 's';
                boolean goesOn = sign == '(' || sign == '!' || sign == ' ';
                if (fits) {
                    isText("fee " + sign);
                } else {
                    fault("fee " + sign, goesOn ? 5 : 4);
                }
                fault("fee 1" + sign + "(2", "+-*/<=>&|".indexOf(sign) >= 0 ? 8 : sign == ' ' ? 6 : sign >= '0' && sign <= '9' ? 6 : 5);
            }
        });
        sentence("4: as long as it goes", () -> {
            fault("fee gs", 4);
            fault("fee ggg", 4);
            fault("fee 123456789", 4);
            fault("feefee 1", 0);
            fault("wantm", 0);
            fault("fee ga", 4);
            fault("fee gz", 4);
            fault("feez 1", 0);
            fault("fee 1+zzzz", 6);
        });
        sentence("4: Between words and signs, and at the ends, there may be blanks (byte 32)", () -> {
            isText("fee 1+2");
            isText("   fee   1   +   2   ");
            isText("fee ( 1 ) ");
            isText("fee ! 1");
            isText("fee 1 < 2");
            fault("fee 12 34", 7);
            fault("fe e 1", 0);
            fault("fee\t1", 3);
            fault("fee 1\n", 5);
            fault("\u00a0fee 1", 0);
            fault("fee\u001f1", 3);
        });
        sentence("4: a word right behind another one needs one", () -> {
            fault("fee1", 3);
            isText("fee 1");
            isText("fee(1)");
            isText("fee!1");
            fault("want9", 4);
            fault("fee 1g", 5);
            fault("fee g1", 5);
            fault("fee 1 g", 6);
            fault("fee1+", 3);
        });
        sentence("4: THE TAPE (96 bytes at most: a TEXT of all of them)", () -> {
            isText("fee 1" + repeated(" ", 91));
            isText(repeated(" ", 91) + "fee 1");
            isText("fee (1" + repeated(" ", 89) + ")");
            fault("fee (1" + repeated(" ", 90), 96);
            fault("fee 1" + repeated("+1", 45) + "+", 96);
            isText("fee 10" + repeated("+1", 45));
            JugMemory x = new JugMemory();
            textOf(x, "fee 10" + repeated("+1", 45));
            due("its value", x.fee(), 55);
            due("its numbers", x.textTold(0, 1), 46);
            JugMemory y = new JugMemory();
            textOf(y, "fee !" + repeated("!1|!", 22) + "!0");
            due("its value", y.fee(), 1);
        });
    }

    private static void faults() {
        sentence("4: FAULT: the first byte of the first word or sign with which no TEXT goes on", () -> {
            fault("x", 0);
            fault("  x", 2);
            fault("fee x y", 4);
            fault("fee 1 x", 6);
            fault("fee +1", 4);
            fault("fee 1++1", 6);
            fault("fee 1**1", 6);
            fault("fee ()", 5);
            fault("fee 1)", 5);
            fault("fee (1))", 7);
            fault("fee (1 2)", 7);
            fault("fee 1(2)", 5);
            fault("fee 1!", 5);
            fault("fee !+", 5);
            fault("fee 1&&1", 6);
            fault("fee 1||1", 6);
            fault("fee fee", 4);
            fault("fee 1 fee 1", 6);
        });
        sentence("4: FAULT: a NUMBER of more than 4 digits", () -> {
            isText("fee 1234+1234");
            fault("fee 12345+1", 4);
            fault("fee 1+12345", 6);
            fault("fee 1 12345", 6);
        });
        sentence("4: FAULT: the ninth ( that would be open within others", () -> {
            isText("fee " + repeated("(", 8) + "1" + repeated(")", 8));
            fault("fee " + repeated("(", 9) + "1" + repeated(")", 9), 12);
            fault("fee " + repeated("( ", 9) + "1", 20);
            isText("fee " + repeated("(1)+", 9) + "(1)");
            isText("fee " + repeated("(", 8) + "1" + repeated(")", 8) + "+" + repeated("(", 8) + "1" + repeated(")", 8));
            fault("fee " + repeated("(", 8) + "1)+(1)+((1", 20);
        });
        sentence("4: FAULT: the ninth ! likewise", () -> {
            isText("fee " + repeated("!", 8) + "1");
            fault("fee " + repeated("!", 9) + "1", 12);
            isText("fee " + repeated("!1+", 9) + "!1");
            isText("fee " + repeated("!", 8) + "1+" + repeated("!", 8) + "1");
            isText("fee " + repeated("!(", 8) + "1" + repeated(")", 8));
            fault("fee " + repeated("!(", 8) + "!1" + repeated(")", 8), 20);
            isText("fee " + repeated("!(", 7) + "!1+!1" + repeated(")", 7));
        });
        sentence("4: FAULT: each by itself", () -> {
            isText("fee " + repeated("(", 8) + repeated("!", 8) + "1" + repeated(")", 8));
            isText("fee " + repeated("!", 8) + repeated("(", 8) + "1" + repeated(")", 8));
            fault("fee " + repeated("(", 8) + repeated("!", 8) + "(1", 20);
            fault("fee " + repeated("(", 8) + repeated("!", 9) + "1", 20);
        });
        sentence("4: FAULT: the end (the place behind the last byte), if it comes too soon", () -> {
            fault("", 0);
            fault("   ", 3);
            fault("fee", 3);
            fault("fee  ", 5);
            fault("fee 1+", 6);
            fault("fee 1 + ", 8);
            fault("fee (", 5);
            fault("fee (1", 6);
            fault("fee (1 ", 7);
            fault("fee !", 5);
            fault("fee 1<", 6);
            fault("fee 1|", 6);
            fault("fee 1&", 6);
            fault("fee " + repeated("(", 8) + "1" + repeated(")", 7), 20);
        });
    }

    private static void values() {
        sentence("4: E, the loosest first", () -> {
            value("1|0&0", 1);
            value("(1|0)&0", 0);
            value("2&1<1", 0);
            value("(2&1)<1", 0);
            value("1<1|1", 1);
            value("0&1<2", 0);
            value("2=1+1", 1);
            value("(2=1)+1", 1);
            value("1+2*3", 7);
            value("(1+2)*3", 9);
            value("9-3-2", 4);
            value("9-(3-2)", 8);
            value("8/4/2", 1);
            value("8/4*2", 4);
            value("!0*5", 5);
            value("!(0*5)", 1);
        });
        sentence("4: Ints wrap", () -> {
            value("8192*8192*32-1", HIGH);
            value("8192*8192*32", LOW);
            value("0-8192*8192*32", LOW);
            value("0-8192*8192*32-1", HIGH);
            value("9999*9999*9999", (int) (9999L * 9999 * 9999));
            value("8192*8192*32<0", 1);
            value("8192*8192*32/(0-1)", LOW);
        });
        sentence("4: / is 0 by 0", () -> {
            value("5/0", 0);
            value("0/0", 0);
            value("(0-5)/0", 0);
            value("5/(1-1)+7", 7);
            value("5/1", 5);
            value("5/(0-1)", -5);
        });
        sentence("4: tests give 1 or 0", () -> {
            int[][] rows = {{1, 2, 1, 0, 0}, {2, 2, 0, 1, 0}, {3, 2, 0, 0, 1}};
            for (int[] r : rows) {
                value(r[0] + "<" + r[1], r[2]);
                value(r[0] + "=" + r[1], r[3]);
                value(r[0] + ">" + r[1], r[4]);
            }
            value("(0-1)<0", 1);
            value("(0-1)>0", 0);
            value("0-1<0-2", 0);
        });
        sentence("4: & | ! give 1 or 0 (what is not 0 is true)", () -> {
            value("2&4", 1);
            value("2&0", 0);
            value("0&2", 0);
            value("0-1&0-1", 1);
            value("2|4", 1);
            value("0|0-1", 1);
            value("0|0", 0);
            value("4|0", 1);
            value("!0", 1);
            value("!1", 0);
            value("!2", 0);
            value("!(0-1)", 0);
            value("!!7", 1);
        });
        sentence("4: (both sides are worked out)", () -> {
            value("0&5/0", 0);
            value("1|5/0", 1);
        });
    }

    // ---- 5: sheets, slots, images

    private static void sheets() {
        sentence("5: SHEETS 0 .. 3", () -> {
            JugMemory x = new JugMemory();
            due("sheet -1", x.sheet(-1, 0, 1), BAD);
            due("sheet 0", x.sheet(0, 0, 1), 1);
            due("sheet 3", x.sheet(3, 0, 1), 1);
            due("sheet 4", x.sheet(4, 0, 1), BAD);
        });
        sentence("5: shorts (sort 0) or floats (1)", () -> {
            JugMemory x = new JugMemory();
            due("sort -2", x.sheet(0, -2, 1), BAD);
            due("sort 0", x.sheet(0, 0, 1), 1);
            due("no number among shorts", x.mark(0, 0, NONE), KIND);
            due("sort 1", x.sheet(0, 1, 1), 1);
            due("no number among floats", x.mark(0, 0, NONE), 1);
            due("sort 2", x.sheet(0, 2, 1), BAD);
        });
        sentence("5: with 0 to 24 places", () -> {
            JugMemory x = new JugMemory();
            due("-1 places", x.sheet(0, 0, -1), SIZE);
            due("0 places", x.sheet(0, 0, 0), 0);
            due("the place 0 of none", x.mark(0, 0, 1), INDEX);
            due("24 places", x.sheet(0, 0, 24), 24);
            due("the place -1", x.mark(0, -1, 1), INDEX);
            due("the place 0", x.mark(0, 0, 1), 1);
            due("the place 23", x.mark(0, 23, 1), 1);
            due("the place 24", x.mark(0, 24, 1), INDEX);
            due("25 places", x.sheet(0, 0, 25), BAD);
        });
        sentence("5: or MISSING (at first)", () -> {
            JugMemory x = new JugMemory();
            for (int sheet = 0; sheet < 4; sheet++) {
                due("at first", x.mark(sheet, 0, 0), NOTHING);
                due("with no places it is there", x.sheet(sheet, 0, 0), 0);
                due("so it is", x.mark(sheet, 0, 0), INDEX);
                due("again", x.sheet(sheet, -1, 5), 0);
                due("missing again", x.mark(sheet, 0, 0), NOTHING);
            }
        });
    }

    private static void slots() {
        sentence("5: SLOTS 0 .. 4 each hold nothing (at first)", () -> {
            JugMemory x = new JugMemory();
            due("slot -1", x.lay(-1, 3, 5), BAD);
            for (int slot = 0; slot < 5; slot++) {
                due("ask", x.ask(slot, 0), NOTHING);
                due("item", x.item(slot, 0), NOTHING);
                due("rest", x.rest(slot, 1), NOTHING);
                due("slot " + slot, x.lay(slot, 3, 5), 0);
            }
            due("slot 5", x.lay(5, 3, 5), BAD);
        });
        sentence("5: a JUG (as it is then, for good)", () -> {
            JugMemory x = new JugMemory();
            x.frost(100);
            x.jug(1, 1, 0, 1);
            x.lay(0, 1, 0);
            x.turns(0, 2);
            x.days(1);
            due("it is gone", x.count(0), 0);
            due("it is worth as much", x.ask(0, 1), 41);
            x.jug(5, 9, 0, 0);
            due("another one of its number", x.ask(0, 1), 41);
            x.keep();
            x.back();
            due("another image", x.ask(0, 1), 41);
        });
        sentence("5: a SHEET (a row of its own, as it was then)", () -> {
            JugMemory x = new JugMemory();
            x.sheet(0, 1, 2);
            x.mark(0, 0, 5);
            x.lay(0, 2, 0);
            x.lay(1, 2, 0);
            x.mark(0, 0, 6);
            x.lay(1, 2, 0);
            x.sheet(0, -1, 0);
            due("the first", x.item(0, 0), 5);
            due("the second", x.item(1, 0), 6);
            due("beyond", x.item(0, 2), INDEX);
        });
        sentence("5: or a number", () -> {
            JugMemory x = new JugMemory();
            for (int v : new int[] {LOW, LOW + 1, -1, 0, 1, HIGH}) {
                x.lay(4, 3, v);
                due("rest of " + v, x.rest(4, LOW), v == LOW ? 0 : v);
            }
        });
    }

    private static void changeTown(JugMemory x) {
        x.days(40);
        x.jug(0, 9, 0, 3);
        x.heart(2, 8);
        x.frost(77);
        x.seed(4);
        x.gives(0, 7);
        x.turns(0, 5);
        x.set(0, 1, 99);
        x.set(0, 4, 55);
        textOf(x, "want 3");
        textOf(x, "fine m+5");
        textOf(x, "fee 1");
    }

    private static void changeRest(JugMemory x) {
        x.sheet(0, 1, 5);
        x.mark(0, 4, NONE);
        x.sheet(2, 0, 24);
        x.sheet(1, -1, 0);
        x.lay(0, 3, 9);
        x.lay(1, 0, 0);
        x.lay(4, 1, 2);
        x.tell(6);
        onTape(x, "fine b*2");
    }

    private static void images() {
        sentence("5: AN IMAGE keeps all but SHEETS, SLOTS, numbers that wait, THE TAPE", () -> {
            alike("the town goes back", y -> {
                rich(y);
                y.keep();
                y.trim(0);
            }, y -> {
                rich(y);
                y.keep();
                changeTown(y);
                y.back();
                y.trim(0);
            });
            alike("the rest stays", y -> {
                rich(y);
                y.keep();
                changeRest(y);
            }, y -> {
                rich(y);
                y.keep();
                changeRest(y);
                y.back();
            });
        });
        sentence("5: all can become as it is (again and again)", () -> alike("three times", y -> {
            rich(y);
            y.back();
            y.trim(0);
        }, y -> {
            rich(y);
            for (int i = 0; i < 3; i++) {
                y.back();
                changeTown(y);
            }
            y.back();
            y.trim(0);
        }));
        sentence("5: AN IMAGE keeps TEXTS: 14 can be told behind it again", () -> {
            JugMemory x = new JugMemory();
            textOf(x, "fee 50");
            x.keep();
            for (int round = 0; round < 3; round++) {
                for (int i = 1; i < 14; i++) {
                    due("text", textOf(x, "fee " + (round * 100 + i)), i);
                }
                due("full", textOf(x, "fee 1"), FULL);
                due("the last", x.fee(), round * 100 + 13);
                x.back();
                due("texts", x.count(6), 1);
                due("text 1", x.textTold(1, 0), BAD);
                due("the image's", x.fee(), 50);
            }
        });
    }

    private static void daysTold() {
        sentence("5: THE DAYS TOLD: of n DAYS, one behind the other, by THE IMAGE: GOT; MARK of all, together, behind each", () -> {
            JugMemory x = new JugMemory();
            oneThimble(x, 7, 2);
            x.jug(2, 99, 2, 10);
            x.days(1);
            x.keep();
            x.seed(99);
            x.frost(100);
            x.days(9);
            x.turns(1, 5);
            int[] rows = {18 + 19, 7 + 12, 37 + 20, 7 + 13, 57 + 21, 7 + 14};
            for (int v : rows) {
                x.tell(v);
            }
            due("three days", x.check(3), 0);
        });
    }
}
