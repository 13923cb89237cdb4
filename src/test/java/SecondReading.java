import java.util.ArrayList;
import java.util.Arrays;
import java.util.HashMap;
import java.util.List;
import java.util.Map;
import java.util.Random;
import java.util.function.ToIntFunction;
import java.util.regex.Matcher;
import java.util.regex.Pattern;

/** Random runs of calls on the class and on a second program, written from the document in another way. */
public final class SecondReading {
    private static final int BAD = -1000000001, NO = -1000000002, FULL = -1000000003, NONE = -1000000005;
    private static final int NOTHING = -1000000011, KIND = -1000000012, INDEX = -1000000013, SIZE = -1000000014;
    private static final int RUNS = 600, CALLS = 512;

    public static void main(String[] args) {
        int wrong = 0;
        for (int run = 0; run < RUNS && wrong < 5; run++) {
            wrong += new Run(run).wrong();
        }
        System.out.println(RUNS + " runs, " + wrong + " of them not as due");
        if (wrong != 0) {
            System.exit(1);
        }
    }

    // ---- the calls, with the least and most of each argument

    private static final String[] CALLS_AND_ARGUMENTS = {
        "jug 0 5 1 99 0 7 0 60", "told 0 9 0 7", "as 0 9 0 5", "turns 0 9 0 5", "set 0 9 1 4 0 99", "gives 0 9 0 7", "heart 0 7 0 9",
        "hand 0 7 0 2", "frost 0 100", "deal 1 10", "seed -2147483648 2147483647", "days 1 100", "town 0 5", "measure 0 9 0 9 0 99",
        "behind 0 100 0 11", "enough 0 7 0 9999", "heir 0 9 1 60 0 1", "hearts 0 7 1 60 0 1", "becomes 0 9 1 60 0 1", "like 0 3 0 1",
        "fee", "fine 0 9", "feed -2147483648 2147483647 -2147483648 2147483647 -2147483648 2147483647", "trim 0 96", "text",
        "textTold 0 13 0 1", "why 0 2", "sheet 0 3 -1 1 0 24", "mark 0 3 0 23 -150 150", "pour 0 3", "reads 0 3", "copy 0 3 0 12 0 3 0 12 0 12",
        "lay 0 4 0 3 0 9", "ask 0 4 0 5", "item 0 4 0 23", "rest 0 4 -9 9", "tell -99 99", "check 1 30", "keep", "back", "count 0 9"};

    private static int answer(JugMemory x, String name, int[] a) {
        switch (name) {
            case "jug": return x.jug(a[0], a[1], a[2], a[3]);
            case "told": return x.told(a[0], a[1]);
            case "as": return x.as(a[0], a[1]);
            case "turns": return x.turns(a[0], a[1]);
            case "set": return x.set(a[0], a[1], a[2]);
            case "gives": return x.gives(a[0], a[1]);
            case "heart": return x.heart(a[0], a[1]);
            case "hand": return x.hand(a[0], a[1]);
            case "frost": return x.frost(a[0]);
            case "deal": return x.deal(a[0]);
            case "seed": return x.seed(a[0]);
            case "days": return x.days(a[0]);
            case "town": return x.town(a[0]);
            case "measure": return x.measure(a[0], a[1], a[2]);
            case "behind": return x.behind(a[0], a[1]);
            case "enough": return x.enough(a[0], a[1]);
            case "heir": return x.heir(a[0], a[1], a[2]);
            case "hearts": return x.hearts(a[0], a[1], a[2]);
            case "becomes": return x.becomes(a[0], a[1], a[2]);
            case "like": return x.like(a[0], a[1]);
            case "fee": return x.fee();
            case "fine": return x.fine(a[0]);
            case "feed": return x.feed(a[0], a[1], a[2]);
            case "trim": return x.trim(a[0]);
            case "text": return x.text();
            case "textTold": return x.textTold(a[0], a[1]);
            case "why": return x.why(a[0]);
            case "sheet": return x.sheet(a[0], a[1], a[2]);
            case "mark": return x.mark(a[0], a[1], a[2]);
            case "pour": return x.pour(a[0]);
            case "reads": return x.reads(a[0]);
            case "copy": return x.copy(a[0], a[1], a[2], a[3], a[4]);
            case "lay": return x.lay(a[0], a[1], a[2]);
            case "ask": return x.ask(a[0], a[1]);
            case "item": return x.item(a[0], a[1]);
            case "rest": return x.rest(a[0], a[1]);
            case "tell": return x.tell(a[0]);
            case "check": return x.check(a[0]);
            case "keep": return x.keep();
            case "back": return x.back();
            default: return x.count(a[0]);
        }
    }

    // ---- a run

    private static final class Run {
        private final int number;
        private final Random random;
        private final JugMemory x = new JugMemory();
        private final Second second = new Second();
        private final StringBuilder told = new StringBuilder();
        private int made;
        private boolean failed;

        Run(int number) {
            this.number = number;
            random = new Random(number);
        }

        int wrong() {
            if (number % 10 == 9) {
                for (int i = 0; i < 99; i++) {
                    make("days", 100);
                }
                make("days", 80 + random.nextInt(20));
            }
            while (made < CALLS && !failed) {
                int choice = random.nextInt(40);
                if (choice < 2) {
                    makeText(randomText());
                } else if (choice == 2) {
                    makeCheck();
                } else if (choice == 3) {
                    make("deal", 1 + random.nextInt(10));
                } else {
                    makeAny();
                }
            }
            return failed ? 1 : 0;
        }

        private void make(String name, int... a) {
            if (made >= CALLS || failed) {
                return;
            }
            made++;
            String call = name + Arrays.toString(a);
            int got = answer(x, name, a);
            int due = second.answer(name, a);
            told.append(call).append(" = ").append(got).append('\n');
            if (got != due) {
                failed = true;
                System.out.println("run " + number + ":\n" + told + "due is " + due);
            }
        }

        private void makeAny() {
            String[] words = CALLS_AND_ARGUMENTS[random.nextInt(CALLS_AND_ARGUMENTS.length)].split(" ");
            boolean slow = words[0].equals("heir") || words[0].equals("hearts") || words[0].equals("becomes") || words[0].equals("back");
            if (slow && random.nextInt(3) != 0) {
                return;
            }
            int[] a = new int[words.length / 2];
            for (int i = 0; i < a.length; i++) {
                a[i] = argument(Integer.parseInt(words[1 + 2 * i]), Integer.parseInt(words[2 + 2 * i]));
            }
            make(words[0], a);
        }

        private int argument(int least, int most) {
            int sort = random.nextInt(50);
            if (sort == 0) {
                int[] odd = {Integer.MIN_VALUE, Integer.MAX_VALUE, NONE, BAD, -2, 0, 100000, -100000, 99999, 32768};
                return odd[random.nextInt(odd.length)];
            }
            if (sort == 1) {
                return random.nextBoolean() ? least - 1 : most + 1;
            }
            if (sort < 5) {
                return random.nextBoolean() ? least : most;
            }
            if (sort == 5) {
                return NONE;
            }
            return (int) (least + (long) (random.nextDouble() * ((long) most - least + 1)));
        }

        private void makeText(String text) {
            make("trim", 0);
            for (int i = 0; i < text.length() && i < 96; i += 12) {
                make("feed", four(text, i), four(text, i + 4), four(text, i + 8));
            }
            make("trim", Math.min(text.length(), 96));
            make("text");
        }

        private int four(String text, int from) {
            int bits = 0;
            for (int i = from; i < from + 4; i++) {
                bits = bits << 8 | (i < text.length() ? text.charAt(i) & 255 : '?');
            }
            return bits;
        }

        private void makeCheck() {
            if (second.image == null || random.nextInt(4) == 0) {
                make("keep");
            }
            int n = 1 + random.nextInt(8);
            List<Integer> row = second.daysTold(n);
            int faulty = random.nextInt(3);
            if (faulty == 0 && !row.isEmpty()) {
                int at = random.nextInt(row.size());
                row.set(at, row.get(at) + 1);
            } else if (faulty == 1 && random.nextBoolean()) {
                row.add(0);
            } else if (faulty == 1 && !row.isEmpty()) {
                row.remove(row.size() - 1);
            }
            make("check", 1);
            for (int v : row) {
                make("tell", v);
            }
            make("check", n);
        }

        private String randomText() {
            String key = new String[] {"want", "want", "fee", "fine"}[random.nextInt(4)];
            String names = key.equals("want") ? "mbhn" : key.equals("fee") ? "gs" : "mb";
            int size = random.nextInt(4) == 0 ? 14 : 5;
            StringBuilder text = new StringBuilder(blanks()).append(key).append(random.nextInt(5) == 0 ? "" : " ").append(blanks());
            text.append(randomE(names, size)).append(blanks());
            int faults = random.nextInt(3) == 0 ? 1 + random.nextInt(2) : 0;
            for (int i = 0; i < faults; i++) {
                int at = random.nextInt(text.length());
                String odd = "()!!((&|<=>+-*/ mbhngs0129xA\u00ff\t";
                int what = random.nextInt(3);
                if (what == 0) {
                    text.deleteCharAt(at);
                } else if (what == 1) {
                    text.insert(at, odd.charAt(random.nextInt(odd.length())));
                } else {
                    text.setCharAt(at, odd.charAt(random.nextInt(odd.length())));
                }
            }
            return text.toString();
        }

        private String blanks() {
            return " ".repeat(random.nextInt(6) == 0 ? random.nextInt(3) : 0);
        }

        private String randomE(String names, int size) {
            if (size <= 1) {
                int most = random.nextInt(20) == 0 ? 6 : 4;
                int what = random.nextInt(3);
                return what > 0 ? "" + names.charAt(random.nextInt(names.length())) : "" + random.nextInt((int) Math.pow(10, 1 + random.nextInt(most)));
            }
            int what = random.nextInt(8);
            if (what == 0) {
                return "!".repeat(1 + random.nextInt(random.nextInt(10) == 0 ? 10 : 3)) + blanks() + "(" + randomE(names, size - 1) + ")";
            }
            if (what == 1) {
                int deep = 1 + random.nextInt(random.nextInt(10) == 0 ? 9 : 2);
                return "(".repeat(deep) + randomE(names, size - 1) + ")".repeat(deep);
            }
            if (what == 2) {
                return "!" + blanks() + randomE(names, 1);
            }
            String sign = "" + "||&&<=>++--**//".charAt(random.nextInt(15));
            int left = 1 + random.nextInt(size - 1);
            return randomE(names, left) + blanks() + sign + blanks() + randomE(names, size - left);
        }
    }

    // ---- texts, read by their signs with a stack of open brackets, worked out from the loosest sign inwards

    private static final class Law {
        private static final Map<String, Law> KNOWN = new HashMap<>();
        private static final Pattern SIGN = Pattern.compile("[a-z]+|[0-9]+|[^ ]", Pattern.DOTALL);
        private static final List<String> KEYS = List.of("want", "fee", "fine");
        private static final String[] NAMES = {"mbhn", "gs", "mb"};
        private static final String[] LOOSEST = {"|", "&", "<=>", "+-", "*/"};

        private final List<String> signs = new ArrayList<>();
        private final List<Integer> starts = new ArrayList<>();
        int fault = -1;
        int key;
        int pieces;
        ToIntFunction<Map<Character, Integer>> value;

        static Law of(String text) {
            return KNOWN.computeIfAbsent(text, Law::new);
        }

        private Law(String text) {
            Matcher m = SIGN.matcher(text);
            while (m.find()) {
                signs.add(m.group());
                starts.add(m.start());
            }
            signs.add("");
            starts.add(text.length());
            fault = findFault();
            if (fault < 0) {
                value = built(1, signs.size() - 1);
            }
        }

        private int findFault() {
            key = KEYS.indexOf(signs.get(0));
            if (key < 0) {
                return starts.get(0);
            }
            // for each open bracket, and for the whole: whether it has been tested since the last & or |, and its open !
            ArrayList<boolean[]> tested = new ArrayList<>(List.of(new boolean[1]));
            ArrayList<int[]> nots = new ArrayList<>(List.of(new int[1]));
            boolean operand = true;
            for (int i = 1; i < signs.size(); i++) {
                String s = signs.get(i);
                int last = tested.size() - 1;
                boolean fits;
                if (operand && isPiece(i)) {
                    fits = true;
                    operand = false;
                    pieces++;
                    nots.get(last)[0] = 0;
                } else if (operand && s.equals("!")) {
                    fits = nots.stream().mapToInt(n -> n[0]).sum() < 8;
                    nots.get(last)[0]++;
                } else if (operand && s.equals("(")) {
                    fits = last < 8;
                    tested.add(new boolean[1]);
                    nots.add(new int[1]);
                } else if (!operand && s.equals(")")) {
                    fits = last > 0;
                    if (fits) {
                        tested.remove(last);
                        nots.remove(last);
                        nots.get(last - 1)[0] = 0;
                    }
                } else if (!operand && s.length() == 1 && "|&+-*/".contains(s)) {
                    fits = true;
                    operand = true;
                    tested.get(last)[0] &= !"|&".contains(s);
                } else if (!operand && s.length() == 1 && "<=>".contains(s)) {
                    fits = !tested.get(last)[0];
                    operand = true;
                    tested.get(last)[0] = true;
                } else {
                    fits = s.isEmpty() && !operand && last == 0;
                }
                if (!fits) {
                    return starts.get(i);
                }
            }
            return -1;
        }

        private boolean isPiece(int i) {
            String s = signs.get(i);
            boolean apart = starts.get(i) > starts.get(i - 1) + signs.get(i - 1).length() || !signs.get(i - 1).matches("[a-z]+|[0-9]+");
            return apart && (s.matches("[0-9]{1,4}") || s.matches("[" + NAMES[key] + "]"));
        }

        private ToIntFunction<Map<Character, Integer>> built(int from, int to) {
            for (String level : LOOSEST) {
                int depth = 0;
                for (int i = to - 1; i >= from; i--) {
                    String s = signs.get(i);
                    depth += s.equals(")") ? 1 : s.equals("(") ? -1 : 0;
                    if (depth == 0 && s.length() == 1 && level.contains(s)) {
                        ToIntFunction<Map<Character, Integer>> left = built(from, i);
                        ToIntFunction<Map<Character, Integer>> right = built(i + 1, to);
                        return names -> joined(s.charAt(0), left.applyAsInt(names), right.applyAsInt(names));
                    }
                }
            }
            String first = signs.get(from);
            if (first.equals("!")) {
                ToIntFunction<Map<Character, Integer>> of = built(from + 1, to);
                return names -> of.applyAsInt(names) == 0 ? 1 : 0;
            }
            if (first.equals("(")) {
                return built(from + 1, to - 1);
            }
            if (first.matches("[0-9]+")) {
                int number = Integer.parseInt(first);
                return names -> number;
            }
            return names -> names.get(first.charAt(0));
        }

        private static int joined(char sign, long a, long b) {
            switch (sign) {
                case '|': return a == 0 && b == 0 ? 0 : 1;
                case '&': return a == 0 || b == 0 ? 0 : 1;
                case '<': return a < b ? 1 : 0;
                case '=': return a == b ? 1 : 0;
                case '>': return a > b ? 1 : 0;
                case '+': return (int) (a + b);
                case '-': return (int) (a - b);
                case '*': return (int) (a * b);
                default: return b == 0 ? 0 : (int) (a / b);
            }
        }
    }

    // ---- jugs of kinds, each under another one

    private static class Vessel {
        int brim, mark, hand, fills;

        static Vessel of(int kind, Vessel as) {
            Vessel v = kind == 0 ? new Vessel() : kind == 1 ? new Heirloom() : kind == 2 ? new Pail() : kind == 3 ? new Cracked() : kind == 4 ? new Misers() : new Thimble();
            if (as != null) {
                v.brim = as.brim;
                v.mark = as.mark;
                v.hand = as.hand;
                v.fills = as.fills;
            }
            return v;
        }

        static Class<?> named(int kind) {
            return of(kind, null).getClass();
        }

        int kind() {
            return 0;
        }

        int to(int plain) {
            return plain < mark ? plain : mark;
        }

        int keeps(int to, int heart) {
            int kept = to + heart / 3;
            return kept > brim ? brim : kept;
        }

        int worth() {
            return mark;
        }

        Vessel copy() {
            return of(kind(), this);
        }
    }

    private static class Heirloom extends Vessel {
        @Override int kind() {
            return 1;
        }

        @Override int to(int plain) {
            return Math.min(super.to(plain), brim / 2);
        }

        @Override int keeps(int to, int heart) {
            return Math.max(super.keeps(to, heart), mark);
        }

        @Override int worth() {
            return super.worth() + 40;
        }
    }

    private static final class Cracked extends Heirloom {
        @Override int kind() {
            return 3;
        }

        @Override int to(int plain) {
            return super.to(plain) - super.to(plain) / 5;
        }

        @Override int keeps(int to, int heart) {
            return Math.max(super.keeps(to, heart) - 1, 0);
        }

        @Override int worth() {
            return super.worth() / 2;
        }
    }

    private static class Pail extends Vessel {
        @Override int kind() {
            return 2;
        }

        @Override int to(int plain) {
            return Math.min(super.to(plain) + 1, brim);
        }

        @Override int keeps(int to, int heart) {
            return to;
        }

        @Override int worth() {
            return brim - mark;
        }
    }

    private static final class Misers extends Pail {
        @Override int kind() {
            return 4;
        }

        @Override int to(int plain) {
            return super.to(plain) / 2;
        }

        @Override int keeps(int to, int heart) {
            return Math.max(super.keeps(to, heart) - 1, 0);
        }

        @Override int worth() {
            return Math.max(super.worth() - 5, 0);
        }
    }

    private static final class Thimble extends Vessel {
        @Override int kind() {
            return 5;
        }

        @Override int to(int plain) {
            return brim;
        }

        @Override int keeps(int to, int heart) {
            return brim;
        }

        @Override int worth() {
            return 3;
        }
    }

    // ---- all that an image keeps

    private static final class World {
        final List<Vessel> jugs = new ArrayList<>();
        int[] heart = {3, 3, 3, 3, 3, 3, 3, 3};
        int[] had = new int[8];
        int frost = 5, got, sold, broken, day, z = 1;
        List<Law> laws = new ArrayList<>();

        World copy() {
            World w = new World();
            for (Vessel v : jugs) {
                w.jugs.add(v.copy());
            }
            w.heart = heart.clone();
            w.had = had.clone();
            w.frost = frost;
            w.got = got;
            w.sold = sold;
            w.broken = broken;
            w.day = day;
            w.z = z;
            w.laws = new ArrayList<>(laws);
            return w;
        }

        World behind(int n) {
            World w = copy();
            for (int i = 0; i < n; i++) {
                w.oneDay();
            }
            return w;
        }

        int draw() {
            z = (int) (z * 1103515245L + 12345L);
            return (z >> 8) & 0xFFFFFF;
        }

        int why(int key) {
            int found = NONE;
            for (int i = 0; i < laws.size(); i++) {
                found = laws.get(i).key == key ? i : found;
            }
            return found;
        }

        int plain(Vessel v) {
            int why = why(0);
            if (why == NONE) {
                return v.mark;
            }
            int gives = laws.get(why).value.applyAsInt(Map.of('m', v.mark, 'b', v.brim, 'h', heart[v.hand], 'n', day));
            return gives < 0 ? 0 : gives > v.brim ? v.brim : gives;
        }

        int to(Vessel v) {
            return v.to(plain(v));
        }

        int keeps(Vessel v) {
            return v.keeps(to(v), heart[v.hand]);
        }

        void has(int hand, int more) {
            had[hand] += more;
            if (had[hand] > 9999) {
                had[hand] = 9999;
            }
        }

        void oneDay() {
            for (Vessel v : jugs) {
                int to = to(v);
                int keeps = keeps(v);
                has(v.hand, to);
                got += to;
                v.mark = keeps;
                if (v.fills != 99) {
                    v.fills++;
                }
            }
            if (!jugs.isEmpty()) {
                Vessel v = jugs.get(draw() % jugs.size());
                int hand = draw() % 8;
                if (hand != v.hand && v.worth() <= had[hand]) {
                    has(hand, -v.worth());
                    has(v.hand, v.worth());
                    v.hand = hand;
                    sold++;
                }
            }
            boolean cold = draw() % 100 < frost;
            if (cold && !jugs.isEmpty()) {
                Vessel most = null;
                for (Vessel v : jugs) {
                    if (most == null || v.fills > most.fills) {
                        most = v;
                    }
                }
                broken++;
                if (--most.brim == 0) {
                    jugs.remove(most);
                } else if (most.mark > most.brim) {
                    most.mark = most.brim;
                }
            }
            day++;
        }

        int marks() {
            return jugs.stream().mapToInt(v -> v.mark).sum();
        }
    }

    // ---- the second program

    private static final class Second {
        World w = new World();
        World image;
        String tape = "";
        final List<List<Integer>> sheets = new ArrayList<>(Arrays.asList(null, null, null, null));
        final int[] sorts = new int[4];
        final Object[] slots = new Object[5];
        List<Integer> waiting = new ArrayList<>();

        private boolean isJug(int j) {
            return j >= 0 && j < w.jugs.size();
        }

        private static boolean in(int v, int least, int most) {
            return least <= v && v <= most;
        }

        List<Integer> daysTold(int n) {
            List<Integer> row = new ArrayList<>();
            World t = image.copy();
            for (int i = 0; i < n && t.day < 9999; i++) {
                t.oneDay();
                row.add(t.got);
                row.add(t.marks());
            }
            return row;
        }

        int answer(String name, int[] a) {
            switch (name) {
                case "jug": case "told": case "as": case "turns": case "set": case "gives": case "heart": case "hand": case "frost": case "deal": case "seed":
                    return ofJugs(name, a);
                case "feed": case "trim": case "text": case "textTold": case "why": case "fee": case "fine":
                    return ofTexts(name, a);
                case "sheet": case "mark": case "pour": case "reads": case "copy": case "like":
                    return ofSheets(name, a);
                case "lay": case "ask": case "item": case "rest":
                    return ofSlots(name, a);
                case "tell": case "check": case "keep": case "back": case "count":
                    return ofRows(name, a);
                default:
                    return ofDays(name, a);
            }
        }

        private int ofJugs(String name, int[] a) {
            switch (name) {
                case "jug":
                    if (!in(a[0], 0, 5) || !in(a[1], 1, 99) || !in(a[2], 0, 7) || !in(a[3], 0, a[1])) {
                        return BAD;
                    }
                    return w.jugs.size() == 10 ? FULL : added(a[0], a[1], a[2], a[3]);
                case "deal":
                    if (!in(a[0], 1, 10)) {
                        return BAD;
                    }
                    int came = 0;
                    while (came < a[0] && w.jugs.size() < 10) {
                        int kind = w.draw() % 6;
                        int brim = w.draw() % 40 + 1;
                        int hand = w.draw() % 8;
                        added(kind, brim, hand, w.draw() % (brim + 1));
                        came++;
                    }
                    return came;
                case "seed":
                    int z = w.z;
                    w.z = a[0];
                    return z;
                case "frost":
                    int frost = w.frost;
                    w.frost = in(a[0], 0, 100) ? a[0] : frost;
                    return in(a[0], 0, 100) ? frost : BAD;
                case "heart":
                    if (!in(a[0], 0, 7) || !in(a[1], 0, 9)) {
                        return BAD;
                    }
                    int heart = w.heart[a[0]];
                    w.heart[a[0]] = a[1];
                    return heart;
                case "hand":
                    if (!in(a[0], 0, 7) || !in(a[1], 0, 2)) {
                        return BAD;
                    }
                    int bits = 0;
                    for (Vessel v : w.jugs) {
                        bits += v.hand == a[0] ? (int) Math.pow(2, w.jugs.indexOf(v)) : 0;
                    }
                    return new int[] {w.heart[a[0]], w.had[a[0]], bits}[a[1]];
                default:
                    return isJug(a[0]) ? ofOneJug(name, a, w.jugs.get(a[0])) : BAD;
            }
        }

        private int added(int kind, int brim, int hand, int mark) {
            Vessel v = Vessel.of(kind, null);
            v.brim = brim;
            v.hand = hand;
            v.mark = mark;
            w.jugs.add(v);
            return w.jugs.size() - 1;
        }

        private int ofOneJug(String name, int[] a, Vessel v) {
            switch (name) {
                case "told":
                    int[] all = {v.kind(), v.brim, v.mark, v.hand, v.fills, w.to(v), w.keeps(v), v.worth()};
                    return in(a[1], 0, 7) ? all[a[1]] : BAD;
                case "as":
                    return !in(a[1], 0, 5) ? BAD : Vessel.named(a[1]).isInstance(v) ? v.mark : KIND;
                case "turns":
                    if (!in(a[1], 0, 5)) {
                        return BAD;
                    }
                    w.jugs.set(a[0], Vessel.of(a[1], v));
                    return v.kind();
                case "gives":
                    int hand = v.hand;
                    v.hand = in(a[1], 0, 7) ? a[1] : hand;
                    return in(a[1], 0, 7) ? hand : BAD;
                default:
                    int was = a[1] == 1 ? v.brim : a[1] == 2 ? v.mark : v.fills;
                    if (a[1] == 1 && in(a[2], 1, 99)) {
                        v.brim = a[2];
                        v.mark = v.mark > v.brim ? v.brim : v.mark;
                        return was;
                    }
                    if (a[1] == 2 && in(a[2], 0, v.brim)) {
                        v.mark = a[2];
                        return was;
                    }
                    if (a[1] == 4 && in(a[2], 0, 99)) {
                        v.fills = a[2];
                        return was;
                    }
                    return BAD;
            }
        }

        private int ofDays(String name, int[] a) {
            switch (name) {
                case "days":
                    if (!in(a[0], 1, 100)) {
                        return BAD;
                    }
                    int got = w.got;
                    for (int i = 0; i < a[0] && w.day < 9999; i++) {
                        w.oneDay();
                    }
                    return w.got - got;
                case "town":
                    if (!in(a[0], 0, 5)) {
                        return BAD;
                    }
                    int richest = 7;
                    for (int h = 7; h >= 0; h--) {
                        richest = w.had[h] >= w.had[richest] ? h : richest;
                    }
                    int best = w.jugs.size() - 1;
                    for (int j = best; j >= 0; j--) {
                        best = w.jugs.get(j).worth() >= w.jugs.get(best).worth() ? j : best;
                    }
                    return new int[] {w.got, w.sold, w.broken, w.marks(), richest, best < 0 ? NONE : best}[a[0]];
                case "measure":
                    return !isJug(a[0]) || !isJug(a[1]) || a[0] == a[1] || !in(a[2], 0, 99) ? BAD : measured(w.jugs.get(a[0]).brim, w.jugs.get(a[1]).brim, a[2]);
                case "behind":
                    if (!in(a[0], 0, 100) || !in(a[1], 0, 11)) {
                        return BAD;
                    }
                    World t = w.behind(a[0]);
                    return a[1] > 3 ? t.had[a[1] - 4] : new int[] {t.got, t.sold, t.broken, t.jugs.size()}[a[1]];
                case "enough":
                    if (!in(a[0], 0, 7) || !in(a[1], 0, 9999)) {
                        return BAD;
                    }
                    World e = w.copy();
                    int days = 0;
                    while (e.had[a[0]] < a[1] && days <= 200) {
                        e.oneDay();
                        days++;
                    }
                    return days > 200 ? NONE : days;
                default:
                    return best(name, a);
            }
        }

        private int best(String name, int[] a) {
            boolean there = name.equals("hearts") ? in(a[0], 0, 7) : isJug(a[0]);
            if (!there || !in(a[1], 1, 60) || !in(a[2], 0, 1)) {
                return BAD;
            }
            int best = -1;
            int most = -1;
            int last = name.equals("heir") ? 7 : name.equals("hearts") ? 9 : 5;
            for (int v = last; v >= 0; v--) {
                World t = w.copy();
                if (name.equals("heir")) {
                    t.jugs.get(a[0]).hand = v;
                } else if (name.equals("hearts")) {
                    t.heart[a[0]] = v;
                } else {
                    t.jugs.set(a[0], Vessel.of(v, t.jugs.get(a[0])));
                }
                int got = t.behind(a[1]).got;
                if (got >= most) {
                    most = got;
                    best = v;
                }
            }
            return a[2] == 0 ? best : most;
        }

        private static int measured(int a, int b, int v) {
            Map<Integer, Integer> steps = new HashMap<>(Map.of(0, 0));
            List<Integer> open = new ArrayList<>(List.of(0));
            for (int i = 0; i < open.size(); i++) {
                int x = open.get(i) / 100;
                int y = open.get(i) % 100;
                if (x == v || y == v) {
                    return steps.get(open.get(i));
                }
                int there = Math.min(x, b - y);
                int here = Math.min(y, a - x);
                for (int n : new int[] {a * 100 + y, x * 100 + b, y, x * 100, (x - there) * 100 + y + there, (x + here) * 100 + y - here}) {
                    if (steps.putIfAbsent(n, steps.get(open.get(i)) + 1) == null) {
                        open.add(n);
                    }
                }
            }
            return NONE;
        }

        private int ofTexts(String name, int[] a) {
            switch (name) {
                case "feed":
                    if (tape.length() + 12 > 96) {
                        return FULL;
                    }
                    for (int v : a) {
                        tape += "" + (char) (v >> 24 & 255) + (char) (v >> 16 & 255) + (char) (v >> 8 & 255) + (char) (v & 255);
                    }
                    return tape.length();
                case "trim":
                    if (!in(a[0], 0, tape.length())) {
                        return BAD;
                    }
                    tape = tape.substring(0, a[0]);
                    return a[0];
                case "text":
                    Law law = Law.of(tape);
                    tape = "";
                    if (law.fault >= 0) {
                        return -100 - law.fault;
                    }
                    if (w.laws.size() == 14) {
                        return FULL;
                    }
                    w.laws.add(law);
                    return w.laws.size() - 1;
                case "textTold":
                    if (!in(a[0], 0, w.laws.size() - 1) || !in(a[1], 0, 1)) {
                        return BAD;
                    }
                    return a[1] == 0 ? w.laws.get(a[0]).key : w.laws.get(a[0]).pieces;
                case "why":
                    return in(a[0], 0, 2) ? w.why(a[0]) : BAD;
                case "fee":
                    return w.why(1) == NONE ? w.got : w.laws.get(w.why(1)).value.applyAsInt(Map.of('g', w.got, 's', w.sold));
                default:
                    if (!isJug(a[0])) {
                        return BAD;
                    }
                    Vessel v = w.jugs.get(a[0]);
                    return w.why(2) == NONE ? v.mark : w.laws.get(w.why(2)).value.applyAsInt(Map.of('m', v.mark, 'b', v.brim));
            }
        }

        private int ofSheets(String name, int[] a) {
            if (!in(a[0], 0, 3) || name.equals("copy") && !in(a[2], 0, 3) || name.equals("like") && !in(a[1], 0, 1)) {
                return BAD;
            }
            if (name.equals("sheet")) {
                return begun(a[0], a[1], a[2]);
            }
            List<Integer> sheet = sheets.get(a[0]);
            if (sheet == null || name.equals("copy") && sheets.get(a[2]) == null) {
                return NOTHING;
            }
            switch (name) {
                case "mark":
                    if (!in(a[1], 0, sheet.size() - 1)) {
                        return INDEX;
                    }
                    if (sorts[a[0]] == 0 && a[2] == NONE) {
                        return KIND;
                    }
                    if (sorts[a[0]] == 1 && a[2] != NONE && Math.abs((long) a[2]) > 99999) {
                        return BAD;
                    }
                    sheet.set(a[1], a[2] == NONE ? null : sorts[a[0]] == 1 ? a[2] : (a[2] << 16) >> 16);
                    return 1;
                case "pour":
                    int otherwise = 0;
                    for (int i = 0; i < sheet.size() && i < w.jugs.size(); i++) {
                        Vessel v = w.jugs.get(i);
                        int was = v.mark;
                        v.mark = sheet.get(i) == null ? was : Math.max(Math.min(sheet.get(i), v.brim), 0);
                        otherwise += was != v.mark ? 1 : 0;
                    }
                    return otherwise;
                case "reads":
                    for (int i = 0; i < sheet.size(); i++) {
                        if (sheet.get(i) != null && (!isJug(i) || w.jugs.get(i).hand != sheet.get(i))) {
                            return i;
                        }
                    }
                    return NONE;
                case "like":
                    return w.jugs.isEmpty() ? NONE : alike(sheet)[a[1]];
                default:
                    return copied(sheet, sheets.get(a[2]), a);
            }
        }

        private int begun(int sheet, int sort, int n) {
            if (!in(sort, -1, 1) || sort >= 0 && n > 24) {
                return BAD;
            }
            if (sort == -1) {
                sheets.set(sheet, null);
                return 0;
            }
            if (n < 0) {
                return SIZE;
            }
            List<Integer> row = new ArrayList<>();
            for (int i = 0; i < n; i++) {
                row.add(0);
            }
            sheets.set(sheet, row);
            sorts[sheet] = sort;
            return n;
        }

        private int[] alike(List<Integer> sheet) {
            int[] best = null;
            for (int j = 0; j < w.jugs.size(); j++) {
                int sum = 0;
                World t = w.copy();
                for (Integer place : sheet) {
                    int mark = j < t.jugs.size() ? t.jugs.get(j).mark : 0;
                    sum += place == null ? 0 : Math.abs(place - mark);
                    t.oneDay();
                }
                best = best == null || sum < best[1] ? new int[] {j, sum} : best;
            }
            return best;
        }

        private int copied(List<Integer> from, List<Integer> to, int[] a) {
            if (sorts[a[0]] != sorts[a[2]]) {
                return KIND;
            }
            if (a[1] < 0 || a[3] < 0 || a[4] < 0 || (long) a[1] + a[4] > from.size() || (long) a[3] + a[4] > to.size()) {
                return INDEX;
            }
            List<Integer> were = new ArrayList<>(from.subList(a[1], a[1] + a[4]));
            for (int i = 0; i < a[4]; i++) {
                to.set(a[3] + i, were.get(i));
            }
            return a[4];
        }

        private int ofSlots(String name, int[] a) {
            if (!in(a[0], 0, 4) || name.equals("ask") && !in(a[1], 0, 5)) {
                return BAD;
            }
            Object holds = slots[a[0]];
            if (name.equals("lay")) {
                if (!in(a[1], 0, 3) || a[1] == 1 && !isJug(a[2]) || a[1] == 2 && !in(a[2], 0, 3)) {
                    return BAD;
                }
                if (a[1] == 2 && sheets.get(a[2]) == null) {
                    return NOTHING;
                }
                slots[a[0]] = a[1] == 0 ? null : a[1] == 1 ? w.jugs.get(a[2]).copy() : a[1] == 2 ? new ArrayList<>(sheets.get(a[2])) : (Object) a[2];
                return holds == null ? 0 : holds instanceof Vessel ? 1 : holds instanceof List ? 2 : 3;
            }
            if (holds == null) {
                return NOTHING;
            }
            if (name.equals("ask")) {
                return holds instanceof Vessel v && Vessel.named(a[1]).isInstance(v) ? v.worth() : KIND;
            }
            if (name.equals("item")) {
                if (!(holds instanceof List<?> row)) {
                    return KIND;
                }
                return !in(a[1], 0, row.size() - 1) ? INDEX : row.get(a[1]) == null ? KIND : (Integer) row.get(a[1]);
            }
            return !(holds instanceof Integer) ? KIND : a[1] == 0 ? NO : (int) ((long) (Integer) holds % a[1]);
        }

        private int ofRows(String name, int[] a) {
            switch (name) {
                case "tell":
                    if (waiting.size() == 60) {
                        return FULL;
                    }
                    waiting.add(a[0]);
                    return waiting.size();
                case "check":
                    List<Integer> row = waiting;
                    waiting = new ArrayList<>();
                    if (!in(a[0], 1, 30)) {
                        return BAD;
                    }
                    if (image == null) {
                        return NO;
                    }
                    List<Integer> due = daysTold(a[0]);
                    int same = 0;
                    while (same < due.size() && same < row.size() && due.get(same).equals(row.get(same))) {
                        same++;
                    }
                    return same == due.size() && same == row.size() ? 0 : 1 + same;
                case "keep":
                    image = w.copy();
                    return w.jugs.size();
                case "back":
                    w = image == null ? w : image.copy();
                    return image == null ? NO : w.jugs.size();
                default:
                    int[] all = {w.jugs.size(), w.day, w.frost, w.got, w.sold, w.broken, w.laws.size(), waiting.size(), tape.length(), w.z};
                    return in(a[0], 0, 9) ? all[a[0]] : BAD;
            }
        }
    }
}
