import java.util.ArrayList;
import java.util.List;

/** What the tests of single sentences share: what is due, and whether two objects are as one another in all that can be asked. */
abstract class Sentences {
    static final int BAD = -1000000001, NO = -1000000002, FULL = -1000000003, NONE = -1000000005;
    static final int NOTHING = -1000000011, KIND = -1000000012, INDEX = -1000000013, SIZE = -1000000014;
    static final int LOW = Integer.MIN_VALUE, HIGH = Integer.MAX_VALUE;

    interface Steps {
        void on(JugMemory x);
    }

    interface Call {
        int on(JugMemory x);
    }

    private static String sentence = "";
    private static int sentences = 0;
    private static int asked = 0;
    private static int wrong = 0;

    static void sentence(String words, Runnable test) {
        sentence = words;
        sentences++;
        int before = asked;
        test.run();
        if (asked == before) {
            wrong++;
            System.out.println("[" + words + "] asks nothing");
        }
    }

    static void due(String call, int got, int want) {
        asked++;
        if (got != want) {
            wrong++;
            System.out.println("[" + sentence + "] " + call + " answered " + got + ", due is " + want);
        }
    }

    static void end() {
        System.out.println(sentences + " sentences, " + asked + " answers, " + wrong + " not as due");
        if (wrong != 0) {
            System.exit(1);
        }
    }

    // ---- refused calls

    /** A call that answers so, and behind which all is as it was: it is refused, or only asks or thinks. */
    static void leaves(Steps made, String call, int want, Call asking) {
        due(call, asking.on(made(made)), want);
        alike(call + " changes nothing", made, y -> {
            made.on(y);
            asking.on(y);
        });
    }

    /** All parts are read from objects of their own: reading some of them uses others up, and 512 calls are all that is promised. */
    static void alike(String what, Steps one, Steps other) {
        for (int part = 0; part < 4; part++) {
            List<Integer> ones = read(one, part);
            List<Integer> others = read(other, part);
            due(what + ", how many of part " + part, others.size(), ones.size());
            for (int i = 0; i < ones.size() && i < others.size(); i++) {
                due(what + ", part " + part + " at " + i, others.get(i), ones.get(i));
            }
        }
    }

    private static List<Integer> read(Steps made, int part) {
        JugMemory x = new JugMemory();
        made.on(x);
        List<Integer> row = new ArrayList<>();
        switch (part) {
            case 0:
                readTown(x, row);
                break;
            case 1:
                readSlots(x, row);
                readSheets(x, row);
                break;
            case 2:
                readTapeAndRow(x, row);
                break;
            default:
                row.add(x.back());
                readTown(x, row);
                break;
        }
        return row;
    }

    private static void readTown(JugMemory x, List<Integer> row) {
        for (int what = 0; what < 10; what++) {
            row.add(x.count(what));
        }
        for (int hand = 0; hand < 8; hand++) {
            for (int what = 0; what < 3; what++) {
                row.add(x.hand(hand, what));
            }
        }
        for (int jug = 0; jug < x.count(0); jug++) {
            for (int what = 0; what < 8; what++) {
                row.add(x.told(jug, what));
            }
            row.add(x.fine(jug));
        }
        for (int text = 0; text < x.count(6); text++) {
            row.add(x.textTold(text, 0));
            row.add(x.textTold(text, 1));
        }
        for (int key = 0; key < 3; key++) {
            row.add(x.why(key));
        }
        row.add(x.fee());
        row.add(x.behind(9, 0));
    }

    private static void readSlots(JugMemory x, List<Integer> row) {
        for (int slot = 0; slot < 5; slot++) {
            for (int kind = 0; kind < 6; kind++) {
                row.add(x.ask(slot, kind));
            }
            row.add(x.rest(slot, HIGH));
            readItems(x, slot, row);
        }
    }

    private static void readSheets(JugMemory x, List<Integer> row) {
        for (int sheet = 0; sheet < 4; sheet++) {
            row.add(x.lay(0, 0, 0));
            row.add(x.lay(0, 2, sheet));
            int places = readItems(x, 0, row);
            // the sorts: none but floats take NONE, and places go to a sheet of the same sort alone
            row.add(x.mark(sheet, places - 1, NONE));
            row.add(x.copy(sheet, 0, 0, 0, 0));
        }
    }

    private static int readItems(JugMemory x, int slot, List<Integer> row) {
        int place = 0;
        int item = x.item(slot, place);
        while (item != INDEX && item != NOTHING && place < 25) {
            row.add(item);
            place++;
            item = x.item(slot, place);
        }
        row.add(item);
        return place;
    }

    private static void readTapeAndRow(JugMemory x, List<Integer> row) {
        row.add(x.count(8));
        row.add(x.count(7));
        row.add(x.check(2));
        row.add(x.text());
        readTown(x, row);
    }

    // ---- objects to begin from

    /** Something of everything: six jugs, three texts, an image, two true days that wait, sheets, slots, a text on the tape. */
    static void rich(JugMemory x) {
        sixJugs(x);
        textOf(x, "want m+1");
        textOf(x, "fine b-m");
        textOf(x, "fee g+s");
        x.seed(12);
        x.days(3);
        x.keep();
        for (int day = 0; day < 2; day++) {
            x.days(1);
            x.tell(x.town(0));
            x.tell(x.town(3));
        }
        x.heart(2, 7);
        x.frost(20);
        x.gives(0, 6);
        x.sheet(0, 0, 3);
        x.mark(0, 0, 7);
        x.mark(0, 1, -1);
        x.mark(0, 2, 5);
        x.sheet(1, 1, 4);
        x.mark(1, 0, 99);
        x.mark(1, 1, NONE);
        x.mark(1, 2, -3);
        x.mark(1, 3, 4);
        x.sheet(2, 0, 0);
        x.lay(0, 1, 3);
        x.lay(1, 2, 0);
        x.lay(2, 3, 77);
        x.lay(3, 2, 1);
        onTape(x, "want b-3");
    }

    /** One jug of each kind, by hands of the same number, without frost. */
    static void sixJugs(JugMemory x) {
        x.frost(0);
        x.jug(0, 20, 0, 10);
        x.jug(1, 30, 1, 28);
        x.jug(2, 12, 2, 5);
        x.jug(3, 40, 3, 33);
        x.jug(4, 25, 4, 9);
        x.jug(5, 2, 5, 0);
    }

    static void nothing(JugMemory x) {
    }

    static JugMemory made(Steps steps) {
        JugMemory x = new JugMemory();
        steps.on(x);
        return x;
    }

    /** A jug that none buys as long as others have nothing, and that gives brim a day. */
    static void oneThimble(JugMemory x, int brim, int hand) {
        x.frost(0);
        x.jug(5, brim, hand, 0);
    }

    static void toDay(JugMemory x, int day) {
        for (int at = x.count(1); at < day; at += 100) {
            x.days(Math.min(100, day - at));
        }
    }

    // ---- draws

    static int stepped(int z, int draws) {
        for (int i = 0; i < draws; i++) {
            z = z * 1103515245 + 12345;
        }
        return z;
    }

    static int drawn(int z) {
        return z >>> 8;
    }

    /** A z by which the next day draws that jug of so many, that hand, and that rest for frost (below 0: any). */
    static int seedFor(int jugs, int jug, int hand, int frost) {
        for (int seed = 0; seed < 10000000; seed++) {
            int first = drawn(stepped(seed, 1)) % jugs;
            int second = drawn(stepped(seed, 2)) % 8;
            int third = drawn(stepped(seed, 3)) % 100;
            if (first == jug && second == hand && (frost < 0 || third == frost)) {
                return seed;
            }
        }
        throw new IllegalStateException("no such seed");
    }

    /** A day on which hand draws a jug: it must be hand's already if it is not to be sold. */
    static int dayOf(JugMemory x, int jug, int hand, int frost) {
        x.seed(seedFor(x.count(0), jug, hand, frost));
        return x.days(1);
    }

    // ---- texts

    static void onTape(JugMemory x, String text) {
        x.trim(0);
        for (int i = 0; i < text.length(); i += 12) {
            x.feed(four(text, i), four(text, i + 4), four(text, i + 8));
        }
        x.trim(text.length());
    }

    private static int four(String text, int from) {
        int bits = 0;
        for (int i = from; i < from + 4; i++) {
            bits = bits << 8 | (i < text.length() ? text.charAt(i) & 255 : 'x');
        }
        return bits;
    }

    static int textOf(JugMemory x, String text) {
        onTape(x, text);
        return x.text();
    }

    static void isText(String text) {
        due("text of \"" + text + "\"", textOf(new JugMemory(), text), 0);
    }

    static void fault(String text, int place) {
        due("fault of \"" + text + "\"", textOf(new JugMemory(), text), -100 - place);
    }

    /** What fee gives by E, in a town where GOT is 0 and SOLD is 0. */
    static void value(String e, int want) {
        JugMemory x = new JugMemory();
        due("text of \"fee " + e + "\"", textOf(x, "fee " + e), 0);
        due("value of \"" + e + "\"", x.fee(), want);
    }

    static String repeated(String part, int times) {
        StringBuilder all = new StringBuilder();
        for (int i = 0; i < times; i++) {
            all.append(part);
        }
        return all.toString();
    }
}
