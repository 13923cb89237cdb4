import java.util.Arrays;

/** Jugs, the hands that have them, and the fountain that remembers how far each was filled. */
public final class JugMemory {
    public static final int BAD = -1000000001, NO = -1000000002, FULL = -1000000003, NONE = -1000000005, NOTHING = -1000000011, KIND = -1000000012, INDEX = -1000000013, SIZE = -1000000014;

    private static final int MOST_JUGS = 10, HANDS = 8, KINDS = 6, KEYS = 3;
    private static final int MOST_BRIM = 99, MOST_FILLS = 99, MOST_HAD = 9999, MOST_HEART = 9, MOST_FROST = 100;
    private static final int LAST_DAY = 9999, MOST_DAYS = 100, MOST_THOUGHT_DAYS = 60, MOST_ENOUGH_DAYS = 200, MOST_TOLD_DAYS = 30;
    private static final int MOST_TEXTS = 14, MOST_BYTES = 96, MOST_WAITING = 60;
    private static final int SHEETS = 4, SLOTS = 5, MOST_PLACES = 24, MOST_FLOAT = 99999;
    private static final int WANT = 0, FEE = 1, FINE = 2;
    private static final int NEW_HAND = 0, NEW_HEART = 1, NEW_KIND = 2;

    private final Laws laws;
    private final Town now;
    private final Town thought;
    private final Town image;
    private boolean imageKept;
    private final byte[] tape;
    private int tapeLength;
    private final Reader reader;
    private final Sheet[] sheets;
    private final Slot[] slots;
    private final int[] waiting;
    private int waitingCount;
    private final int[] differences;

    public JugMemory() {
        laws = new Laws();
        now = new Town(laws);
        thought = new Town(laws);
        image = new Town(laws);
        tape = new byte[MOST_BYTES];
        reader = new Reader(tape);
        sheets = new Sheet[SHEETS];
        for (int i = 0; i < SHEETS; i++) {
            sheets[i] = new Sheet();
        }
        slots = new Slot[SLOTS];
        for (int i = 0; i < SLOTS; i++) {
            slots[i] = new Slot();
        }
        waiting = new int[MOST_WAITING];
        differences = new int[MOST_JUGS];
    }

    // ---- jugs

    public int jug(int kind, int brim, int hand, int mark) {
        if (!isKind(kind) || !within(brim, 1, MOST_BRIM) || !isHand(hand) || !within(mark, 0, brim)) {
            return BAD;
        }
        if (now.jugCount >= MOST_JUGS) {
            return FULL;
        }
        now.addJug(kind, brim, hand, mark);
        return now.jugCount - 1;
    }

    public int told(int jug, int what) {
        if (!isJug(jug)) {
            return BAD;
        }
        Jug it = now.jugs[jug];
        switch (what) {
            case 0: return it.kind;
            case 1: return it.brim;
            case 2: return it.mark;
            case 3: return it.hand;
            case 4: return it.fills;
            case 5: return it.filledTo(now.plainOf(it));
            case 6: return it.keptBy(it.filledTo(now.plainOf(it)), now.heart[it.hand]);
            case 7: return it.worth();
            default: return BAD;
        }
    }

    public int as(int jug, int kind) {
        if (!isJug(jug) || !isKind(kind)) {
            return BAD;
        }
        return now.jugs[jug].isOf(kind) ? now.jugs[jug].mark : KIND;
    }

    public int turns(int jug, int kind) {
        if (!isJug(jug) || !isKind(kind)) {
            return BAD;
        }
        int was = now.jugs[jug].kind;
        now.jugs[jug].kind = kind;
        return was;
    }

    public int set(int jug, int what, int v) {
        if (!isJug(jug)) {
            return BAD;
        }
        Jug it = now.jugs[jug];
        int was = BAD;
        if (what == 1 && within(v, 1, MOST_BRIM)) {
            was = it.brim;
            it.brim = v;
            it.mark = Math.min(it.mark, v);
        } else if (what == 2 && within(v, 0, it.brim)) {
            was = it.mark;
            it.mark = v;
        } else if (what == 4 && within(v, 0, MOST_FILLS)) {
            was = it.fills;
            it.fills = v;
        }
        return was;
    }

    public int gives(int jug, int hand) {
        if (!isJug(jug) || !isHand(hand)) {
            return BAD;
        }
        int was = now.jugs[jug].hand;
        now.jugs[jug].hand = hand;
        return was;
    }

    public int heart(int hand, int v) {
        if (!isHand(hand) || !within(v, 0, MOST_HEART)) {
            return BAD;
        }
        int was = now.heart[hand];
        now.heart[hand] = v;
        return was;
    }

    public int hand(int hand, int what) {
        if (!isHand(hand)) {
            return BAD;
        }
        switch (what) {
            case 0: return now.heart[hand];
            case 1: return now.had[hand];
            case 2: return now.jugsOf(hand);
            default: return BAD;
        }
    }

    public int frost(int v) {
        if (!within(v, 0, MOST_FROST)) {
            return BAD;
        }
        int was = now.frost;
        now.frost = v;
        return was;
    }

    public int deal(int n) {
        if (!within(n, 1, MOST_JUGS)) {
            return BAD;
        }
        int came = Math.min(n, MOST_JUGS - now.jugCount);
        for (int i = 0; i < came; i++) {
            now.drawJug();
        }
        return came;
    }

    public int seed(int v) {
        int was = now.z;
        now.z = v;
        return was;
    }

    // ---- days

    public int days(int n) {
        if (!within(n, 1, MOST_DAYS)) {
            return BAD;
        }
        int before = now.got;
        now.passDays(Math.min(n, LAST_DAY - now.day));
        return now.got - before;
    }

    public int town(int what) {
        switch (what) {
            case 0: return now.got;
            case 1: return now.sold;
            case 2: return now.broken;
            case 3: return now.allMarks();
            case 4: return now.richest();
            case 5: return now.bestJug();
            default: return BAD;
        }
    }

    public int measure(int jug, int other, int v) {
        if (!isJug(jug) || !isJug(other) || jug == other || !within(v, 0, MOST_BRIM)) {
            return BAD;
        }
        if (v == 0) {
            return 0;
        }
        // Any step that leaves these two ways leads back to where one of them began: no other is shorter.
        // One goes forth through what the other goes back through, so both are NONE or neither is.
        int oneWay = pouringSteps(now.jugs[jug].brim, now.jugs[other].brim, v);
        int otherWay = pouringSteps(now.jugs[other].brim, now.jugs[jug].brim, v);
        return Math.min(oneWay, otherWay);
    }

    // ---- what will be

    public int behind(int n, int what) {
        if (!within(n, 0, MOST_DAYS) || !within(what, 0, 3 + HANDS)) {
            return BAD;
        }
        thought.become(now);
        thought.passDays(n);
        switch (what) {
            case 0: return thought.got;
            case 1: return thought.sold;
            case 2: return thought.broken;
            case 3: return thought.jugCount;
            default: return thought.had[what - 4];
        }
    }

    public int enough(int hand, int v) {
        if (!isHand(hand) || !within(v, 0, MOST_HAD)) {
            return BAD;
        }
        thought.become(now);
        for (int days = 0; days <= MOST_ENOUGH_DAYS; days++) {
            if (thought.had[hand] >= v) {
                return days;
            }
            thought.passDays(1);
        }
        return NONE;
    }

    public int heir(int jug, int n, int what) {
        return isJug(jug) ? bestChange(NEW_HAND, jug, n, what) : BAD;
    }

    public int hearts(int hand, int n, int what) {
        return isHand(hand) ? bestChange(NEW_HEART, hand, n, what) : BAD;
    }

    public int becomes(int jug, int n, int what) {
        return isJug(jug) ? bestChange(NEW_KIND, jug, n, what) : BAD;
    }

    public int like(int sheet, int what) {
        if (!isSheet(sheet) || !within(what, 0, 1)) {
            return BAD;
        }
        if (sheets[sheet].isMissing()) {
            return NOTHING;
        }
        if (now.jugCount == 0) {
            return NONE;
        }
        sumDifferences(sheets[sheet]);
        int least = 0;
        for (int i = 1; i < now.jugCount; i++) {
            if (differences[i] < differences[least]) {
                least = i;
            }
        }
        return what == 0 ? least : differences[least];
    }

    public int fee() {
        return now.feeGiven();
    }

    public int fine(int jug) {
        return isJug(jug) ? now.fineOf(now.jugs[jug]) : BAD;
    }

    // ---- texts

    public int feed(int a, int b, int c) {
        if (tapeLength > MOST_BYTES - 12) {
            return FULL;
        }
        putBytes(a);
        putBytes(b);
        putBytes(c);
        return tapeLength;
    }

    public int trim(int n) {
        if (!within(n, 0, tapeLength)) {
            return BAD;
        }
        tapeLength = n;
        return n;
    }

    public int text() {
        boolean isText = reader.readsText(tapeLength);
        tapeLength = 0;
        if (!isText) {
            return -100 - reader.start;
        }
        if (now.textCount >= MOST_TEXTS) {
            return FULL;
        }
        int number = now.textCount;
        laws.texts[number] = reader.newText();
        now.counting[reader.key] = number;
        now.textCount++;
        return number;
    }

    public int textTold(int text, int what) {
        if (!within(text, 0, now.textCount - 1) || !within(what, 0, 1)) {
            return BAD;
        }
        Text it = laws.texts[text];
        if (it == null) {
            return BAD;
        }
        return what == 0 ? it.key : it.pieces;
    }

    public int why(int key) {
        return within(key, 0, KEYS - 1) ? now.counting[key] : BAD;
    }

    // ---- sheets, slots

    public int sheet(int sheet, int sort, int n) {
        if (!isSheet(sheet) || !within(sort, Sheet.MISSING, Sheet.FLOATS)) {
            return BAD;
        }
        int many = sort == Sheet.MISSING ? 0 : n;
        if (many > MOST_PLACES) {
            return BAD;
        }
        if (many < 0) {
            return SIZE;
        }
        sheets[sheet].begin(sort, many);
        return many;
    }

    public int mark(int sheet, int place, int v) {
        if (!isSheet(sheet)) {
            return BAD;
        }
        Sheet it = sheets[sheet];
        if (it.isMissing()) {
            return NOTHING;
        }
        if (!it.hasPlace(place)) {
            return INDEX;
        }
        if (it.sort == Sheet.SHORTS) {
            if (v == NONE) {
                return KIND;
            }
            it.places[place] = (short) v;
            return 1;
        }
        if (v != NONE && !within(v, -MOST_FLOAT, MOST_FLOAT)) {
            return BAD;
        }
        it.places[place] = v;
        return 1;
    }

    public int pour(int sheet) {
        if (!isSheet(sheet)) {
            return BAD;
        }
        if (sheets[sheet].isMissing()) {
            return NOTHING;
        }
        int changed = 0;
        for (int i = 0; i < now.jugCount; i++) {
            if (sheets[sheet].isNumber(i)) {
                Jug it = now.jugs[i];
                int mark = held(sheets[sheet].places[i], it.brim);
                changed += mark == it.mark ? 0 : 1;
                it.mark = mark;
            }
        }
        return changed;
    }

    public int reads(int sheet) {
        if (!isSheet(sheet)) {
            return BAD;
        }
        Sheet it = sheets[sheet];
        if (it.isMissing()) {
            return NOTHING;
        }
        for (int i = 0; i < it.length && i < MOST_PLACES; i++) {
            if (it.isNumber(i) && !(isJug(i) && now.jugs[i].hand == it.places[i])) {
                return i;
            }
        }
        return NONE;
    }

    public int copy(int from, int place, int to, int at, int many) {
        if (!isSheet(from) || !isSheet(to)) {
            return BAD;
        }
        Sheet source = sheets[from];
        Sheet goal = sheets[to];
        if (source.isMissing() || goal.isMissing()) {
            return NOTHING;
        }
        if (source.sort != goal.sort) {
            return KIND;
        }
        if (!source.hasPlaces(place, many) || !goal.hasPlaces(at, many)) {
            return INDEX;
        }
        System.arraycopy(source.places, place, goal.places, at, many);
        return many;
    }

    public int lay(int slot, int thing, int k) {
        if (!isSlot(slot)) {
            return BAD;
        }
        Slot it = slots[slot];
        int held = it.thing;
        switch (thing) {
            case Slot.EMPTY:
                break;
            case Slot.JUG:
                if (!isJug(k)) {
                    return BAD;
                }
                it.jug.become(now.jugs[k]);
                break;
            case Slot.SHEET:
                if (!isSheet(k)) {
                    return BAD;
                }
                if (sheets[k].isMissing()) {
                    return NOTHING;
                }
                it.sheet.become(sheets[k]);
                break;
            case Slot.NUMBER:
                it.number = k;
                break;
            default:
                return BAD;
        }
        it.thing = thing;
        return held;
    }

    public int ask(int slot, int kind) {
        if (!isSlot(slot) || !isKind(kind)) {
            return BAD;
        }
        Slot it = slots[slot];
        if (it.thing == Slot.EMPTY) {
            return NOTHING;
        }
        if (it.thing != Slot.JUG || !it.jug.isOf(kind)) {
            return KIND;
        }
        return it.jug.worth();
    }

    public int item(int slot, int place) {
        if (!isSlot(slot)) {
            return BAD;
        }
        Slot it = slots[slot];
        if (it.thing == Slot.EMPTY) {
            return NOTHING;
        }
        if (it.thing != Slot.SHEET) {
            return KIND;
        }
        if (!it.sheet.hasPlace(place)) {
            return INDEX;
        }
        return it.sheet.isNumber(place) ? it.sheet.places[place] : KIND;
    }

    public int rest(int slot, int n) {
        if (!isSlot(slot)) {
            return BAD;
        }
        Slot it = slots[slot];
        if (it.thing == Slot.EMPTY) {
            return NOTHING;
        }
        if (it.thing != Slot.NUMBER) {
            return KIND;
        }
        if (n == 0) {
            return NO;
        }
        return it.number % n;
    }

    // ---- rows, images

    public int tell(int v) {
        if (waitingCount >= MOST_WAITING) {
            return FULL;
        }
        waiting[waitingCount] = v;
        waitingCount++;
        return waitingCount;
    }

    public int check(int n) {
        int many = waitingCount;
        waitingCount = 0;
        if (!within(n, 1, MOST_TOLD_DAYS)) {
            return BAD;
        }
        if (!imageKept) {
            return NO;
        }
        return comparedWithDays(many, Math.min(n, LAST_DAY - image.day));
    }

    public int keep() {
        image.become(now);
        imageKept = true;
        return now.jugCount;
    }

    public int back() {
        if (!imageKept) {
            return NO;
        }
        now.become(image);
        return now.jugCount;
    }

    public int count(int what) {
        switch (what) {
            case 0: return now.jugCount;
            case 1: return now.day;
            case 2: return now.frost;
            case 3: return now.got;
            case 4: return now.sold;
            case 5: return now.broken;
            case 6: return now.textCount;
            case 7: return waitingCount;
            case 8: return tapeLength;
            case 9: return now.z;
            default: return BAD;
        }
    }

    // ---- what the calls share

    private static boolean within(int v, int least, int most) {
        return v >= least && v <= most;
    }

    private static int held(int v, int brim) {
        return Math.max(0, Math.min(v, brim));
    }

    private static boolean isKind(int kind) {
        return within(kind, 0, KINDS - 1);
    }

    private static boolean isHand(int hand) {
        return within(hand, 0, HANDS - 1);
    }

    private static boolean isSheet(int sheet) {
        return within(sheet, 0, SHEETS - 1);
    }

    private static boolean isSlot(int slot) {
        return within(slot, 0, SLOTS - 1);
    }

    private boolean isJug(int jug) {
        return within(jug, 0, now.jugCount - 1);
    }

    /** Steps till one holds v, if the one is ever filled and poured and the other ever emptied. */
    private static int pouringSteps(int brim, int otherBrim, int v) {
        int one = 0;
        int other = 0;
        // It comes back to both being empty behind at most twice as many steps as both brims have.
        int bound = 2 * (brim + otherBrim);
        for (int steps = 1; steps <= bound; steps++) {
            if (other == otherBrim) {
                other = 0;
            } else if (one == 0) {
                one = brim;
            } else {
                int poured = Math.min(one, otherBrim - other);
                one -= poured;
                other += poured;
            }
            if (one == v || other == v) {
                return steps;
            }
        }
        return NONE;
    }

    /** Tries all values of one change from now on: the one by which GOT is most, or that GOT. */
    private int bestChange(int change, int of, int n, int what) {
        if (!within(n, 1, MOST_THOUGHT_DAYS) || !within(what, 0, 1)) {
            return BAD;
        }
        int tries = change == NEW_HAND ? HANDS : change == NEW_HEART ? MOST_HEART + 1 : KINDS;
        int best = 0;
        int most = 0;
        for (int v = 0; v < tries; v++) {
            thought.become(now);
            if (change == NEW_HAND) {
                thought.jugs[of].hand = v;
            } else if (change == NEW_HEART) {
                thought.heart[of] = v;
            } else {
                thought.jugs[of].kind = v;
            }
            thought.passDays(n);
            if (v == 0 || thought.got > most) {
                best = v;
                most = thought.got;
            }
        }
        return what == 0 ? best : most;
    }

    private void sumDifferences(Sheet sheet) {
        Arrays.fill(differences, 0);
        thought.become(now);
        for (int k = 0; k < sheet.length; k++) {
            if (k > 0) {
                thought.passDays(1);
            }
            if (sheet.isNumber(k)) {
                for (int i = 0; i < now.jugCount; i++) {
                    int mark = i < thought.jugCount ? thought.jugs[i].mark : 0;
                    differences[i] += Math.abs(mark - sheet.places[k]);
                }
            }
        }
    }

    private void putBytes(int four) {
        for (int shift = 24; shift >= 0 && tapeLength < MOST_BYTES; shift -= 8) {
            tape[tapeLength] = (byte) (four >>> shift);
            tapeLength++;
        }
    }

    /** 0 if the first numbers that waited are the days behind the image, else 1 and how many are right. */
    private int comparedWithDays(int many, int days) {
        thought.become(image);
        int right = 0;
        for (int i = 0; i < days; i++) {
            thought.passDays(1);
            if (right >= many || waiting[right] != thought.got) {
                return 1 + right;
            }
            right++;
            if (right >= many || waiting[right] != thought.allMarks()) {
                return 1 + right;
            }
            right++;
        }
        return many > right ? 1 + right : 0;
    }

    // ---- classes inside

    private static final class Jug {
        private static final int HEIRLOOM = 1, PAIL = 2, CRACKED = 3, MISERS = 4, THIMBLE = 5;
        private static final int[] KIND_ABOVE = {-1, 0, 0, HEIRLOOM, PAIL, 0};

        int kind;
        int brim;
        int mark;
        int hand;
        int fills;

        void become(Jug from) {
            kind = from.kind;
            brim = from.brim;
            mark = from.mark;
            hand = from.hand;
            fills = from.fills;
        }

        /** Whether it is of a kind, or of one under that. */
        boolean isOf(int wanted) {
            int above = kind;
            for (int i = 0; i < KINDS && above >= 0 && above < KINDS; i++) {
                if (above == wanted) {
                    return true;
                }
                above = KIND_ABOVE[above];
            }
            return false;
        }

        int filledTo(int plain) {
            int asJug = Math.min(plain, mark);
            int asHeirloom = Math.min(asJug, brim / 2);
            int asPail = Math.min(asJug + 1, brim);
            switch (kind) {
                case HEIRLOOM: return asHeirloom;
                case CRACKED: return asHeirloom - asHeirloom / 5;
                case PAIL: return asPail;
                case MISERS: return asPail / 2;
                case THIMBLE: return brim;
                default: return asJug;
            }
        }

        int keptBy(int to, int heartOfHand) {
            int asJug = Math.min(to + heartOfHand / 3, brim);
            int asHeirloom = Math.max(asJug, mark);
            switch (kind) {
                case HEIRLOOM: return asHeirloom;
                case CRACKED: return Math.max(asHeirloom - 1, 0);
                case PAIL: return to;
                case MISERS: return Math.max(to - 1, 0);
                case THIMBLE: return brim;
                default: return asJug;
            }
        }

        int worth() {
            switch (kind) {
                case HEIRLOOM: return mark + 40;
                case CRACKED: return (mark + 40) / 2;
                case PAIL: return brim - mark;
                case MISERS: return Math.max(brim - mark - 5, 0);
                case THIMBLE: return 3;
                default: return mark;
            }
        }
    }

    /** All that an image keeps, and the days that it goes through. */
    private static final class Town {
        final Laws laws;
        final Jug[] jugs;
        int jugCount;
        final int[] heart;
        final int[] had;
        int frost;
        int got;
        int sold;
        int broken;
        int day;
        int z;
        int textCount;
        final int[] counting;

        Town(Laws laws) {
            this.laws = laws;
            jugs = new Jug[MOST_JUGS];
            for (int i = 0; i < MOST_JUGS; i++) {
                jugs[i] = new Jug();
            }
            heart = new int[HANDS];
            Arrays.fill(heart, 3);
            had = new int[HANDS];
            frost = 5;
            z = 1;
            counting = new int[KEYS];
            Arrays.fill(counting, NONE);
        }

        void become(Town from) {
            jugCount = from.jugCount;
            for (int i = 0; i < jugCount && i < MOST_JUGS; i++) {
                jugs[i].become(from.jugs[i]);
            }
            System.arraycopy(from.heart, 0, heart, 0, HANDS);
            System.arraycopy(from.had, 0, had, 0, HANDS);
            frost = from.frost;
            got = from.got;
            sold = from.sold;
            broken = from.broken;
            day = from.day;
            z = from.z;
            textCount = from.textCount;
            System.arraycopy(from.counting, 0, counting, 0, KEYS);
        }

        void addJug(int kind, int brim, int hand, int mark) {
            if (jugCount < MOST_JUGS) {
                Jug it = jugs[jugCount];
                it.kind = kind;
                it.brim = brim;
                it.hand = hand;
                it.mark = mark;
                it.fills = 0;
                jugCount++;
            }
        }

        int drawn() {
            z = z * 1103515245 + 12345;
            return z >>> 8;
        }

        void drawJug() {
            int kind = drawn() % KINDS;
            int brim = drawn() % 40 + 1;
            int hand = drawn() % HANDS;
            int mark = drawn() % (brim + 1);
            addJug(kind, brim, hand, mark);
        }

        void passDays(int n) {
            for (int i = 0; i < n; i++) {
                fillJugs();
                sellOneJug();
                if (drawn() % 100 < frost) {
                    breakFullestJug();
                }
                day++;
            }
        }

        private void fillJugs() {
            for (int i = 0; i < jugCount && i < MOST_JUGS; i++) {
                Jug it = jugs[i];
                int to = it.filledTo(plainOf(it));
                had[it.hand] = Math.min(had[it.hand] + to, MOST_HAD);
                got += to;
                it.mark = it.keptBy(to, heart[it.hand]);
                it.fills = Math.min(it.fills + 1, MOST_FILLS);
            }
        }

        private void sellOneJug() {
            if (jugCount < 1) {
                return;
            }
            Jug it = jugs[drawn() % jugCount];
            int buyer = drawn() % HANDS;
            int price = it.worth();
            if (it.hand == buyer || had[buyer] < price) {
                return;
            }
            had[buyer] -= price;
            had[it.hand] = Math.min(had[it.hand] + price, MOST_HAD);
            it.hand = buyer;
            sold++;
        }

        private void breakFullestJug() {
            if (jugCount < 1) {
                return;
            }
            int fullest = 0;
            for (int i = 1; i < jugCount; i++) {
                if (jugs[i].fills > jugs[fullest].fills) {
                    fullest = i;
                }
            }
            Jug it = jugs[fullest];
            it.brim--;
            it.mark = Math.min(it.mark, it.brim);
            broken++;
            if (it.brim < 1) {
                removeJug(fullest);
            }
        }

        private void removeJug(int gone) {
            for (int i = gone; i + 1 < jugCount; i++) {
                jugs[i].become(jugs[i + 1]);
            }
            jugCount--;
        }

        int plainOf(Jug it) {
            int law = counting[WANT];
            if (law == NONE) {
                return it.mark;
            }
            laws.name('m', it.mark);
            laws.name('b', it.brim);
            laws.name('h', heart[it.hand]);
            laws.name('n', day);
            return held(laws.given(law), it.brim);
        }

        int feeGiven() {
            if (counting[FEE] == NONE) {
                return got;
            }
            laws.name('g', got);
            laws.name('s', sold);
            return laws.given(counting[FEE]);
        }

        int fineOf(Jug it) {
            if (counting[FINE] == NONE) {
                return it.mark;
            }
            laws.name('m', it.mark);
            laws.name('b', it.brim);
            return laws.given(counting[FINE]);
        }

        int jugsOf(int owner) {
            int bits = 0;
            for (int i = 0; i < jugCount; i++) {
                if (jugs[i].hand == owner) {
                    bits |= 1 << i;
                }
            }
            return bits;
        }

        int allMarks() {
            int sum = 0;
            for (int i = 0; i < jugCount; i++) {
                sum += jugs[i].mark;
            }
            return sum;
        }

        int richest() {
            int best = 0;
            for (int i = 1; i < HANDS; i++) {
                if (had[i] > had[best]) {
                    best = i;
                }
            }
            return best;
        }

        int bestJug() {
            if (jugCount < 1) {
                return NONE;
            }
            int best = 0;
            for (int i = 1; i < jugCount; i++) {
                if (jugs[i].worth() > jugs[best].worth()) {
                    best = i;
                }
            }
            return best;
        }
    }

    /** A text that was read: its code has a number as it is, a name or an operator as its byte below 0, operators last. */
    private static final class Text {
        final int key;
        final int pieces;
        final int[] code;

        Text(int key, int pieces, int[] code) {
            this.key = key;
            this.pieces = pieces;
            this.code = code;
        }
    }

    /**
     * The texts, and the room to work them out in. An image shares them: a text that it
     * counts is never written over, since none but those behind the image's are taken back.
     */
    private static final class Laws {
        final Text[] texts;
        private final int[] names;
        private final int[] stack;

        Laws() {
            texts = new Text[MOST_TEXTS];
            names = new int['z' - 'a' + 1];
            stack = new int[MOST_BYTES];
        }

        void name(char letter, int v) {
            int at = letter - 'a';
            if (at >= 0 && at < names.length) {
                names[at] = v;
            }
        }

        int given(int text) {
            if (!within(text, 0, MOST_TEXTS - 1) || texts[text] == null) {
                return 0;
            }
            int[] code = texts[text].code;
            int top = 0;
            for (int i = 0; i < code.length; i++) {
                int sign = -code[i];
                if (sign <= 0 || sign >= 'a' && sign <= 'z') {
                    if (top < MOST_BYTES) {
                        stack[top] = sign <= 0 ? code[i] : names[sign - 'a'];
                        top++;
                    }
                } else if (sign == '!') {
                    if (top >= 1) {
                        stack[top - 1] = stack[top - 1] == 0 ? 1 : 0;
                    }
                } else if (top >= 2) {
                    top--;
                    stack[top - 1] = joined(sign, stack[top - 1], stack[top]);
                }
            }
            return stack[0];
        }

        private static int joined(int sign, int a, int b) {
            switch (sign) {
                case '|': return a != 0 || b != 0 ? 1 : 0;
                case '&': return a != 0 && b != 0 ? 1 : 0;
                case '<': return a < b ? 1 : 0;
                case '=': return a == b ? 1 : 0;
                case '>': return a > b ? 1 : 0;
                case '+': return a + b;
                case '-': return a - b;
                case '*': return a * b;
                case '/': return b == 0 ? 0 : a / b;
                default: return 0;
            }
        }
    }

    /** Reads the tape as a text; where it does not go on, start is the place of the fault. */
    private static final class Reader {
        private static final int END = -1, LETTERS = -2, DIGITS = -3, UNFIT = -4;
        private static final int PIECE_LEVEL = 5, TEST_LEVEL = 2;
        private static final int MOST_OPEN = 8, MOST_DIGITS = 4;

        private final byte[] tape;
        private final int[] code;
        private int codeLength;
        private int length;
        private int pieces;
        private int sign;
        private int end;
        int start;
        int key;

        Reader(byte[] tape) {
            this.tape = tape;
            code = new int[MOST_BYTES];
        }

        boolean readsText(int tapeLength) {
            length = Math.min(tapeLength, MOST_BYTES);
            codeLength = 0;
            pieces = 0;
            sign = END;
            start = 0;
            end = 0;
            step();
            key = keyRead();
            if (key < 0) {
                return false;
            }
            step();
            return readsLevel(0, 0, 0) && sign == END;
        }

        Text newText() {
            return new Text(key, pieces, Arrays.copyOf(code, codeLength));
        }

        /** Goes to the next word or sign, or to the end. */
        private void step() {
            boolean behindWord = sign == LETTERS || sign == DIGITS;
            int from = end;
            start = end;
            while (start < length && byteAt(start) == ' ') {
                start++;
            }
            end = start;
            if (start >= length) {
                sign = END;
                return;
            }
            int first = byteAt(start);
            sign = isLetter(first) ? LETTERS : isDigit(first) ? DIGITS : first;
            end = start + 1;
            while (end < length && (sign == LETTERS && isLetter(byteAt(end)) || sign == DIGITS && isDigit(byteAt(end)))) {
                end++;
            }
            boolean needsBlank = behindWord && start == from && sign < 0;
            if (needsBlank || sign == DIGITS && end - start > MOST_DIGITS) {
                sign = UNFIT;
            }
        }

        private int byteAt(int place) {
            return place >= 0 && place < MOST_BYTES ? tape[place] & 255 : 0;
        }

        private static boolean isLetter(int sign) {
            return sign >= 'a' && sign <= 'z';
        }

        private static boolean isDigit(int sign) {
            return sign >= '0' && sign <= '9';
        }

        private int keyRead() {
            if (isWord("want")) {
                return WANT;
            }
            if (isWord("fee")) {
                return FEE;
            }
            return isWord("fine") ? FINE : -1;
        }

        private boolean isWord(String word) {
            if (sign != LETTERS || end - start != word.length()) {
                return false;
            }
            for (int i = 0; i < word.length(); i++) {
                if (byteAt(start + i) != word.charAt(i)) {
                    return false;
                }
            }
            return true;
        }

        /** Levels are the grammar's, the loosest first: 0 OR, 1 AND, 2 TEST, 3 SUM, 4 TERM, 5 PIECE. */
        private boolean readsLevel(int level, int opens, int nots) {
            if (level >= PIECE_LEVEL) {
                return readsPiece(opens, nots);
            }
            if (!readsLevel(level + 1, opens, nots)) {
                return false;
            }
            for (int i = 0; i < MOST_BYTES && joins(level, sign); i++) {
                if (level == TEST_LEVEL && i > 0) {
                    return true;
                }
                int joint = sign;
                step();
                if (!readsLevel(level + 1, opens, nots)) {
                    return false;
                }
                put(-joint);
            }
            return true;
        }

        private static boolean joins(int level, int sign) {
            switch (level) {
                case 0: return sign == '|';
                case 1: return sign == '&';
                case TEST_LEVEL: return sign == '<' || sign == '=' || sign == '>';
                case 3: return sign == '+' || sign == '-';
                case 4: return sign == '*' || sign == '/';
                default: return false;
            }
        }

        private boolean readsPiece(int opens, int nots) {
            if (sign == DIGITS || isName()) {
                put(sign == DIGITS ? numberRead() : -byteAt(start));
                pieces++;
                step();
                return true;
            }
            if (sign == '!' && nots < MOST_OPEN) {
                step();
                if (!readsPiece(opens, nots + 1)) {
                    return false;
                }
                put(-'!');
                return true;
            }
            if (sign == '(' && opens < MOST_OPEN) {
                step();
                if (!readsLevel(0, opens + 1, nots) || sign != ')') {
                    return false;
                }
                step();
                return true;
            }
            return false;
        }

        private boolean isName() {
            String names = key == WANT ? "mbhn" : key == FEE ? "gs" : "mb";
            return sign == LETTERS && end - start == 1 && names.indexOf((char) byteAt(start)) >= 0;
        }

        private int numberRead() {
            int number = 0;
            for (int i = start; i < end; i++) {
                number = number * 10 + byteAt(i) - '0';
            }
            return number;
        }

        private void put(int sign) {
            if (codeLength < MOST_BYTES) {
                code[codeLength] = sign;
                codeLength++;
            }
        }
    }

    /** A row of shorts or floats; both are whole, so ints hold them, and NONE stands for NO NUMBER. */
    private static final class Sheet {
        private static final int MISSING = -1, SHORTS = 0, FLOATS = 1;

        int sort;
        int length;
        final int[] places;

        Sheet() {
            sort = MISSING;
            places = new int[MOST_PLACES];
        }

        void begin(int newSort, int newLength) {
            sort = newSort;
            length = newLength;
            Arrays.fill(places, 0);
        }

        void become(Sheet from) {
            sort = from.sort;
            length = from.length;
            System.arraycopy(from.places, 0, places, 0, MOST_PLACES);
        }

        boolean isMissing() {
            return sort == MISSING;
        }

        boolean hasPlace(int place) {
            return place >= 0 && place < length;
        }

        boolean hasPlaces(int place, int many) {
            return place >= 0 && many >= 0 && place <= length && many <= length - place;
        }

        boolean isNumber(int place) {
            return hasPlace(place) && places[place] != NONE;
        }
    }

    private static final class Slot {
        private static final int EMPTY = 0, JUG = 1, SHEET = 2, NUMBER = 3;

        int thing;
        final Jug jug;
        final Sheet sheet;
        int number;

        Slot() {
            jug = new Jug();
            sheet = new Sheet();
        }
    }
}
