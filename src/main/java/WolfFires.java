import java.util.Arrays;

/** A train of wagons that sleeps in a ring, with fires, watchers, and wolves about it. */
public final class WolfFires {
    public static final int BAD = -1000000001, NO = -1000000002, FULL = -1000000003, NONE = -1000000005,
            NOTHING = -1000000011, KIND = -1000000012, INDEX = -1000000013, SIZE = -1000000014;

    private static final int MOST_WAGONS = 12, MOST_WATCHERS = 8, MOST_TEXTS = 14, MOST_BYTES = 96;
    private static final int MOST_SHEETS = 4, MOST_PLACES = 24, MOST_SLOTS = 5, MOST_WAITING = 60;
    private static final int LAST_HOUR = 9999, LONGEST = 300, MOST_WOOD = 9999, MOST_TIRED = 999, MOST_FEARS = 999;
    private static final int SEARCHED_WAGONS = 6, MOST_WOLVES_BY_SIGNS = 40, NOBODY_CAME = 99;

    private static final int WATCHER = 0, OLD = 1, DOG = 2, LAME = 3, BITCH = 4, BOY = 5;
    /** By KIND, the KIND right above it; WATCHER stands under none. */
    private static final int[] ABOVE = {-1, WATCHER, WATCHER, OLD, DOG, WATCHER};

    private static final int LIGHT = 0, FEAR = 1, TIRE = 2;
    private static final String LIGHT_WORD = "light", FEAR_WORD = "fear", TIRE_WORD = "tire";
    private static final String LIGHT_NAMES = "fnw", FEAR_NAMES = "gth", TIRE_NAMES = "te";

    private static final int SHORTS = 0, FLOATS = 1, MISSING = -1, MOST_FLOAT = 99999;
    private static final int HOLDS_NOTHING = 0, HOLDS_WATCHER = 1, HOLDS_SHEET = 2, HOLDS_NUMBER = 3;

    // One law more than there can be texts: the last is only read into, so that a fault is found when all are told.
    private final Law[] laws;
    private final Camp now;
    private final Camp image;
    // What is only thought happens in here, so that no call makes a camp of its own.
    private final Camp thought;
    private final FireSearch search = new FireSearch();
    private final Tape tape = new Tape();
    private final Sheet[] sheets = new Sheet[MOST_SHEETS];
    private final Slot[] slots = new Slot[MOST_SLOTS];
    private final int[] waiting = new int[MOST_WAITING];
    private int waitingMany = 0;
    private boolean kept = false;

    public WolfFires() {
        Law[] all = emptyLaws();
        laws = all;
        now = new Camp(all);
        image = new Camp(all);
        thought = new Camp(all);
        for (int k = 0; k < sheets.length; k++) {
            sheets[k] = new Sheet();
        }
        for (int k = 0; k < slots.length; k++) {
            slots[k] = new Slot();
        }
    }

    private static Law[] emptyLaws() {
        int[] stack = new int[MOST_BYTES];
        Law[] all = new Law[MOST_TEXTS + 1];
        for (int k = 0; k < all.length; k++) {
            all[k] = new Law(stack);
        }
        return all;
    }

    // ---- the ring

    public int wagon(int foals) {
        if (!within(foals, 0, 99)) {
            return BAD;
        }
        return now.ring.joins(foals);
    }

    public int at(int wagon, int what) {
        if (!now.ring.has(wagon) || !within(what, 0, 5)) {
            return BAD;
        }
        if (what <= 2) {
            return now.ring.row(what)[wagon];
        }
        now.measure();
        switch (what) {
            case 3:
                return now.light[wagon];
            case 4:
                return now.guard[wagon];
            default:
                return now.fearsOf(wagon);
        }
    }

    public int lays(int wagon, int what, int v) {
        if (!now.ring.has(wagon) || !within(what, 0, 2) || !within(v, 0, what == 1 ? 9 : 99)) {
            return BAD;
        }
        int[] row = now.ring.row(what);
        int was = row[wagon];
        row[wagon] = v;
        return was;
    }

    public int far(int one, int other) {
        if (!now.ring.has(one) || !now.ring.has(other)) {
            return BAD;
        }
        int steps = Math.abs(one - other);
        return Math.min(steps, now.ring.many - steps);
    }

    public int plain(int what, int v) {
        if (!within(what, 0, 2) || !within(v, 0, what == 0 ? MOST_WOOD : 99)) {
            return BAD;
        }
        int was;
        if (what == 0) {
            was = now.wood;
            now.wood = v;
        } else if (what == 1) {
            was = now.wolves;
            now.wolves = v;
        } else {
            was = now.hunger;
            now.hunger = v;
        }
        return was;
    }

    // ---- watchers

    public int watcher(int kind, int at, int eyes) {
        if (!isKind(kind) || !within(at, 0, MOST_WAGONS - 1) || !within(eyes, 1, 9)) {
            return BAD;
        }
        return now.hires(kind, at, eyes);
    }

    public int told(int watcher, int what) {
        if (!now.hasWatcher(watcher) || !within(what, 0, 6)) {
            return BAD;
        }
        Watcher one = now.watchers[watcher];
        switch (what) {
            case 0:
                return one.kind;
            case 1:
                return one.at;
            case 2:
                return one.eyes;
            case 3:
                return one.tired;
            case 4:
                return one.on;
            case 5:
                now.measure();
                return now.sightOf(one);
            default:
                return one.worth();
        }
    }

    public int as(int watcher, int kind) {
        if (!now.hasWatcher(watcher) || !isKind(kind)) {
            return BAD;
        }
        Watcher one = now.watchers[watcher];
        return one.isOf(kind) ? one.eyes : KIND;
    }

    public int turns(int watcher, int kind) {
        if (!now.hasWatcher(watcher) || !isKind(kind)) {
            return BAD;
        }
        Watcher one = now.watchers[watcher];
        int was = one.kind;
        one.kind = kind;
        return was;
    }

    public int set(int watcher, int what, int v) {
        if (!now.hasWatcher(watcher) || !Watcher.canBe(what, v)) {
            return BAD;
        }
        Watcher one = now.watchers[watcher];
        int was;
        switch (what) {
            case 1:
                was = one.at;
                one.at = v;
                return was;
            case 2:
                was = one.eyes;
                one.eyes = v;
                return was;
            case 3:
                was = one.tired;
                one.tired = v;
                return was;
            default:
                was = one.on;
                one.on = v;
                return was;
        }
    }

    public int deal(int n) {
        if (!within(n, 1, MOST_WATCHERS)) {
            return BAD;
        }
        int came = Math.min(n, MOST_WATCHERS - now.watchersMany);
        for (int k = 0; k < came; k++) {
            int kind = now.draw() % ABOVE.length;
            int place = now.draw() % MOST_WAGONS;
            int eyes = 1 + now.draw() % 9;
            now.hires(kind, place, eyes);
        }
        return came;
    }

    public int seed(int v) {
        int was = now.z;
        now.z = v;
        return was;
    }

    // ---- hours

    public int hours(int n) {
        if (!within(n, 1, LONGEST)) {
            return BAD;
        }
        int was = now.lost;
        now.pass(Math.min(n, LAST_HOUR - now.hour));
        return now.lost - was;
    }

    public int night(int what) {
        switch (what) {
            case 0:
                return now.lost;
            case 1:
                return now.slept;
            case 2:
                return now.burnt;
            case 3:
                now.measure();
                return now.leastFeared();
            default:
                return BAD;
        }
    }

    public int behind(int n, int what) {
        if (!within(n, 0, LONGEST) || !within(what, 0, 3)) {
            return BAD;
        }
        thought.takeFrom(now);
        thought.pass(n);
        switch (what) {
            case 0:
                return thought.lost;
            case 1:
                return thought.wood;
            case 2:
                return thought.hunger;
            default:
                return thought.ring.allFoals();
        }
    }

    public int lasts() {
        thought.takeFrom(now);
        for (int n = 1; n <= LONGEST; n++) {
            // Wolves and watchers change neither fires nor wood, so the burning alone is thought.
            if (thought.burn()) {
                return n;
            }
        }
        return NONE;
    }

    public int loss() {
        thought.takeFrom(now);
        for (int n = 1; n <= LONGEST; n++) {
            thought.pass(1);
            if (thought.lost > now.lost) {
                return n;
            }
        }
        return NONE;
    }

    public int dark(int v) {
        if (!within(v, 0, 100)) {
            return BAD;
        }
        now.measure();
        int set = 0;
        for (int k = 0; k < now.ring.many; k++) {
            if (now.light[k] < v) {
                set |= 1 << k;
            }
        }
        return set;
    }

    public int fires(int w, int what) {
        if (!within(w, 0, 18) || !within(what, 0, 2)) {
            return BAD;
        }
        if (!within(now.ring.many, 1, SEARCHED_WAGONS)) {
            return NONE;
        }
        thought.takeFrom(now);
        search.runOn(thought, w);
        switch (what) {
            case 0:
                return search.light;
            case 1:
                return search.together;
            default:
                return search.digits;
        }
    }

    public int watch(int n, int what) {
        if (!within(n, 1, 60) || !within(what, 0, 1)) {
            return BAD;
        }
        int best = NONE;
        int least = NONE;
        for (int k = 0; k < now.watchersMany; k++) {
            thought.takeFrom(now);
            thought.wakesOnly(k);
            thought.pass(n);
            if (best == NONE || thought.lost < least) {
                best = k;
                least = thought.lost;
            }
        }
        return what == 0 ? best : least;
    }

    public int place(int watcher, int n) {
        if (!now.hasWatcher(watcher) || !within(n, 1, 60)) {
            return BAD;
        }
        int best = NONE;
        int least = 0;
        for (int k = 0; k < now.ring.many; k++) {
            thought.takeFrom(now);
            thought.watchers[watcher].at = k;
            thought.watchers[watcher].on = 1;
            thought.pass(n);
            if (best == NONE || thought.lost < least) {
                best = k;
                least = thought.lost;
            }
        }
        return best;
    }

    public int signs(int sheet, int n, int what) {
        if (!isSheet(sheet) || !within(n, 0, 60) || !within(what, 0, 1)) {
            return BAD;
        }
        if (sheets[sheet].sort == MISSING) {
            return NOTHING;
        }
        int best = NONE;
        int least = 0;
        for (int k = 0; k <= MOST_WOLVES_BY_SIGNS; k++) {
            thought.takeFrom(now);
            thought.wolves = k;
            thought.pass(n);
            int differences = sheets[sheet].differences(thought.ring);
            if (best == NONE || differences < least) {
                best = k;
                least = differences;
            }
        }
        return what == 0 ? best : least;
    }

    // ---- texts

    public int feed(int a, int b, int c) {
        if (tape.many + 12 > MOST_BYTES) {
            return FULL;
        }
        tape.takesNumber(a);
        tape.takesNumber(b);
        tape.takesNumber(c);
        return tape.many;
    }

    public int trim(int n) {
        if (!within(n, 0, tape.many)) {
            return BAD;
        }
        tape.many = n;
        return n;
    }

    public int text() {
        // The image has never more texts than there are now, so the next law is in no image.
        Law law = laws[Math.min(now.texts, MOST_TEXTS)];
        int fault = tape.readInto(law);
        tape.many = 0;
        if (fault >= 0) {
            return -100 - fault;
        }
        if (now.texts >= MOST_TEXTS) {
            return FULL;
        }
        now.textFor[law.key] = now.texts;
        return now.texts++;
    }

    public int textTold(int text, int what) {
        if (!within(text, 0, now.texts - 1) || !within(what, 0, 1)) {
            return BAD;
        }
        return what == 0 ? laws[text].key : laws[text].leaves;
    }

    public int why(int key) {
        return within(key, LIGHT, TIRE) ? now.textFor[key] : BAD;
    }

    // ---- sheets, slots

    public int sheet(int sheet, int sort, int n) {
        if (!isSheet(sheet) || !within(sort, MISSING, FLOATS)) {
            return BAD;
        }
        if (sort == MISSING) {
            sheets[sheet].becomes(MISSING, 0);
            return 0;
        }
        if (n > MOST_PLACES) {
            return BAD;
        }
        if (n < 0) {
            return SIZE;
        }
        sheets[sheet].becomes(sort, n);
        return n;
    }

    public int mark(int sheet, int place, int v) {
        if (!isSheet(sheet)) {
            return BAD;
        }
        Sheet one = sheets[sheet];
        if (one.sort == MISSING) {
            return NOTHING;
        }
        if (!one.has(place)) {
            return INDEX;
        }
        if (one.sort == SHORTS) {
            if (v == NONE) {
                return KIND;
            }
            one.places[place] = (short) v;
            return 1;
        }
        if (v != NONE && !within(v, -MOST_FLOAT, MOST_FLOAT)) {
            return BAD;
        }
        one.places[place] = v;
        return 1;
    }

    public int pour(int sheet) {
        if (!isSheet(sheet)) {
            return BAD;
        }
        Sheet one = sheets[sheet];
        if (one.sort == MISSING) {
            return NOTHING;
        }
        int otherwise = 0;
        for (int k = 0; k < now.ring.many && k < one.many; k++) {
            int foals = held(one.places[k], 0, 99);
            if (one.places[k] != NONE && foals != now.ring.foals[k]) {
                now.ring.foals[k] = foals;
                otherwise++;
            }
        }
        return otherwise;
    }

    public int reads(int sheet) {
        if (!isSheet(sheet)) {
            return BAD;
        }
        Sheet one = sheets[sheet];
        if (one.sort == MISSING) {
            return NOTHING;
        }
        now.measure();
        for (int k = 0; k < one.many; k++) {
            boolean asLight = now.ring.has(k) && one.places[k] == now.light[k];
            if (one.places[k] != NONE && !asLight) {
                return k;
            }
        }
        return NONE;
    }

    public int copy(int from, int place, int to, int at, int many) {
        if (!isSheet(from) || !isSheet(to)) {
            return BAD;
        }
        Sheet source = sheets[from];
        Sheet target = sheets[to];
        if (source.sort == MISSING || target.sort == MISSING) {
            return NOTHING;
        }
        if (source.sort != target.sort) {
            return KIND;
        }
        if (!source.hasRun(place, many) || !target.hasRun(at, many)) {
            return INDEX;
        }
        System.arraycopy(source.places, place, target.places, at, many);
        return many;
    }

    public int lay(int slot, int thing, int k) {
        if (!isSlot(slot) || !within(thing, HOLDS_NOTHING, HOLDS_NUMBER)) {
            return BAD;
        }
        if (thing == HOLDS_WATCHER && !now.hasWatcher(k) || thing == HOLDS_SHEET && !isSheet(k)) {
            return BAD;
        }
        if (thing == HOLDS_SHEET && sheets[k].sort == MISSING) {
            return NOTHING;
        }
        Slot one = slots[slot];
        int was = one.thing;
        one.thing = thing;
        if (thing == HOLDS_WATCHER) {
            one.watcher.takeFrom(now.watchers[k]);
        } else if (thing == HOLDS_SHEET) {
            one.sheet.takeFrom(sheets[k]);
        } else {
            one.number = k;
        }
        return was;
    }

    public int ask(int slot, int kind) {
        if (!isSlot(slot) || !isKind(kind)) {
            return BAD;
        }
        Slot one = slots[slot];
        if (one.thing == HOLDS_NOTHING) {
            return NOTHING;
        }
        if (one.thing != HOLDS_WATCHER || !one.watcher.isOf(kind)) {
            return KIND;
        }
        return one.watcher.worth();
    }

    public int item(int slot, int place) {
        if (!isSlot(slot)) {
            return BAD;
        }
        Slot one = slots[slot];
        if (one.thing == HOLDS_NOTHING) {
            return NOTHING;
        }
        if (one.thing != HOLDS_SHEET) {
            return KIND;
        }
        if (!one.sheet.has(place)) {
            return INDEX;
        }
        int v = one.sheet.places[place];
        return v == NONE ? KIND : v;
    }

    public int rest(int slot, int n) {
        if (!isSlot(slot)) {
            return BAD;
        }
        Slot one = slots[slot];
        if (one.thing == HOLDS_NOTHING) {
            return NOTHING;
        }
        if (one.thing != HOLDS_NUMBER) {
            return KIND;
        }
        if (n == 0) {
            return NO;
        }
        return one.number % n;
    }

    // ---- rows, images

    public int tell(int v) {
        if (waitingMany >= waiting.length) {
            return FULL;
        }
        waiting[waitingMany] = v;
        waitingMany++;
        return waitingMany;
    }

    public int check(int n) {
        int many = waitingMany;
        waitingMany = 0;
        if (!within(n, 1, 30)) {
            return BAD;
        }
        if (!kept) {
            return NO;
        }
        thought.takeFrom(image);
        int hours = Math.min(n, LAST_HOUR - image.hour);
        for (int k = 0; k < 2 * hours; k++) {
            // Two numbers are told of each hour: ahead of the first of them it passes.
            if (k % 2 == 0) {
                thought.pass(1);
            }
            int due = k % 2 == 0 ? thought.cameTold() : thought.lost + 100 * thought.wood;
            if (k >= many || waiting[k] != due) {
                return 1 + k;
            }
        }
        return many > 2 * hours ? 1 + 2 * hours : 0;
    }

    public int keep() {
        image.takeFrom(now);
        kept = true;
        return now.ring.many;
    }

    public int back() {
        if (!kept) {
            return NO;
        }
        now.takeFrom(image);
        return now.ring.many;
    }

    public int count(int what) {
        switch (what) {
            case 0:
                return now.ring.many;
            case 1:
                return now.watchersMany;
            case 2:
                return now.onMany();
            case 3:
                return now.wood;
            case 4:
                return now.wolves;
            case 5:
                return now.hunger;
            case 6:
                return now.hour;
            case 7:
                return now.ring.allFoals();
            case 8:
                return now.texts;
            case 9:
                return waitingMany;
            case 10:
                return tape.many;
            case 11:
                return now.z;
            default:
                return BAD;
        }
    }

    private static boolean within(int v, int least, int most) {
        return v >= least && v <= most;
    }

    private static int held(int v, int least, int most) {
        return Math.max(least, Math.min(most, v));
    }

    private static boolean isKind(int kind) {
        return within(kind, 0, ABOVE.length - 1);
    }

    private static boolean isSheet(int sheet) {
        return within(sheet, 0, MOST_SHEETS - 1);
    }

    private static boolean isSlot(int slot) {
        return within(slot, 0, MOST_SLOTS - 1);
    }

    /** The wagons, a row for each thing that is told of them. */
    private static final class Ring {
        int many = 0;
        final int[] foals = new int[MOST_WAGONS];
        final int[] fire = new int[MOST_WAGONS];
        final int[] tried = new int[MOST_WAGONS];

        boolean has(int wagon) {
            return within(wagon, 0, many - 1);
        }

        int joins(int herFoals) {
            if (many >= MOST_WAGONS) {
                return FULL;
            }
            foals[many] = herFoals;
            fire[many] = 0;
            tried[many] = 0;
            many++;
            return many - 1;
        }

        int[] row(int what) {
            if (what == 0) {
                return foals;
            }
            return what == 1 ? fire : tried;
        }

        int nextFires(int wagon) {
            if (many < 2 || !has(wagon)) {
                return 0;
            }
            int greater = wagon == many - 1 ? 0 : wagon + 1;
            int lesser = wagon == 0 ? many - 1 : wagon - 1;
            return greater == lesser ? fire[greater] : fire[greater] + fire[lesser];
        }

        int allFoals() {
            int sum = 0;
            for (int k = 0; k < many; k++) {
                sum += foals[k];
            }
            return sum;
        }

        void takeFrom(Ring other) {
            many = other.many;
            System.arraycopy(other.foals, 0, foals, 0, many);
            System.arraycopy(other.fire, 0, fire, 0, many);
            System.arraycopy(other.tried, 0, tried, 0, many);
        }
    }

    private static final class Watcher {
        int kind = WATCHER;
        int at = 0;
        int eyes = 1;
        int tired = 0;
        int on = 0;

        static boolean canBe(int what, int v) {
            switch (what) {
                case 1:
                    return within(v, 0, MOST_WAGONS - 1);
                case 2:
                    return within(v, 1, 9);
                case 3:
                    return within(v, 0, MOST_TIRED);
                case 4:
                    return within(v, 0, 1);
                default:
                    return false;
            }
        }

        boolean isOf(int wanted) {
            int one = kind;
            for (int steps = 0; steps < ABOVE.length && isKind(one); steps++) {
                if (one == wanted) {
                    return true;
                }
                one = ABOVE[one];
            }
            return false;
        }

        int sight(int light, int foals) {
            if (on == 0) {
                return 0;
            }
            switch (kind) {
                case OLD:
                    return plainSight(light) / 2;
                case LAME:
                    return plainSight(light) / 2 + 1;
                case DOG:
                    return eyes;
                case BITCH:
                    return foals > 0 ? eyes + 3 : eyes;
                case BOY:
                    return tired > 5 ? 0 : plainSight(light);
                default:
                    return plainSight(light);
            }
        }

        private int plainSight(int light) {
            return Math.max(0, eyes - tired / 10) + light / 4;
        }

        int worth() {
            switch (kind) {
                case OLD:
                    return eyes + 4;
                case LAME:
                    return 2 * (eyes + 4);
                case DOG:
                    return 20 - eyes;
                case BITCH:
                    return 20 - eyes + 9;
                case BOY:
                    return 2;
                default:
                    return eyes;
            }
        }

        void takeFrom(Watcher other) {
            kind = other.kind;
            at = other.at;
            eyes = other.eyes;
            tired = other.tired;
            on = other.on;
        }
    }

    /** All that an image keeps, and how an hour goes over it. */
    private static final class Camp {
        final Ring ring = new Ring();
        final Watcher[] watchers = new Watcher[MOST_WATCHERS];
        int watchersMany = 0;
        int wood = 100;
        int wolves = 3;
        int hunger = 5;
        int hour = 0;
        int slept = 0;
        int lost = 0;
        int burnt = 0;
        int z = 1;
        final Law[] laws;
        int texts = 0;
        final int[] textFor = {NONE, NONE, NONE};
        // Right only from one measure() to the next change.
        final int[] light = new int[MOST_WAGONS];
        final int[] guard = new int[MOST_WAGONS];
        // The wagon to which the wolves came in the last hour, or NONE.
        private int came = NONE;

        Camp(Law[] laws) {
            this.laws = laws;
            for (int k = 0; k < watchers.length; k++) {
                watchers[k] = new Watcher();
            }
        }

        void takeFrom(Camp other) {
            ring.takeFrom(other.ring);
            watchersMany = other.watchersMany;
            for (int k = 0; k < watchersMany; k++) {
                watchers[k].takeFrom(other.watchers[k]);
            }
            wood = other.wood;
            wolves = other.wolves;
            hunger = other.hunger;
            hour = other.hour;
            slept = other.slept;
            lost = other.lost;
            burnt = other.burnt;
            z = other.z;
            texts = other.texts;
            System.arraycopy(other.textFor, 0, textFor, 0, textFor.length);
        }

        boolean hasWatcher(int watcher) {
            return within(watcher, 0, watchersMany - 1);
        }

        int hires(int kind, int place, int eyes) {
            if (watchersMany >= MOST_WATCHERS) {
                return FULL;
            }
            Watcher one = watchers[watchersMany];
            one.kind = kind;
            one.at = place;
            one.eyes = eyes;
            one.tired = 0;
            one.on = 0;
            watchersMany++;
            return watchersMany - 1;
        }

        int draw() {
            z = z * 1103515245 + 12345;
            return z >>> 8;
        }

        int onMany() {
            int sum = 0;
            for (int k = 0; k < watchersMany; k++) {
                sum += watchers[k].on;
            }
            return sum;
        }

        void wakesOnly(int watcher) {
            for (int k = 0; k < watchersMany; k++) {
                watchers[k].on = k == watcher ? 1 : 0;
            }
        }

        /** What the text that counts for a key gives, or what is given without one. */
        private int byLaw(int key, int a, int b, int c, int without) {
            int text = textFor[key];
            return within(text, 0, texts - 1) ? laws[text].work(a, b, c) : without;
        }

        int lightBy(int fire, int nextFires) {
            return held(byLaw(LIGHT, fire, nextFires, wood, 2 * fire + nextFires), 0, 99);
        }

        void measure() {
            for (int k = 0; k < ring.many; k++) {
                light[k] = lightBy(ring.fire[k], ring.nextFires(k));
                guard[k] = light[k];
            }
            for (int k = 0; k < watchersMany; k++) {
                int place = watchers[k].at;
                if (ring.has(place)) {
                    guard[place] += sightOf(watchers[k]);
                }
            }
        }

        int sightOf(Watcher one) {
            return ring.has(one.at) ? one.sight(light[one.at], ring.foals[one.at]) : 0;
        }

        int fearsOf(int wagon) {
            if (!ring.has(wagon)) {
                return 0;
            }
            int tried = ring.tried[wagon];
            return held(byLaw(FEAR, guard[wagon], tried, hunger, guard[wagon] + tried), 0, MOST_FEARS);
        }

        /** The wagon to which the wolves would come, as it was measured. */
        int leastFeared() {
            int best = NONE;
            int least = 0;
            for (int k = 0; k < ring.many && wolves > 0; k++) {
                int fears = fearsOf(k);
                if (best == NONE || fears < least) {
                    best = k;
                    least = fears;
                }
            }
            return best;
        }

        int cameTold() {
            return came == NONE ? NOBODY_CAME : came;
        }

        void pass(int hours) {
            for (int k = 0; k < hours; k++) {
                burn();
                measure();
                came = leastFeared();
                if (ring.has(came)) {
                    meet(came);
                }
                tire();
                hour++;
            }
        }

        /** Whether a fire went out for want of wood. */
        boolean burn() {
            boolean out = false;
            for (int k = 0; k < ring.many; k++) {
                if (ring.fire[k] > wood) {
                    ring.fire[k] = 0;
                    out = true;
                }
                wood -= ring.fire[k];
                burnt += ring.fire[k];
            }
            return out;
        }

        private void meet(int wagon) {
            if (guard[wagon] < wolves + hunger && ring.foals[wagon] > 0) {
                ring.foals[wagon]--;
                ring.tried[wagon] = 0;
                lost++;
                hunger = 0;
            } else {
                ring.tried[wagon] = Math.min(99, ring.tried[wagon] + 1);
                hunger = Math.min(99, hunger + 1);
            }
        }

        private void tire() {
            for (int k = 0; k < watchersMany; k++) {
                Watcher one = watchers[k];
                if (one.on == 1) {
                    int more = held(byLaw(TIRE, one.tired, one.eyes, 0, 1), 0, 99);
                    one.tired = Math.min(MOST_TIRED, one.tired + more);
                } else {
                    one.tired = Math.max(0, one.tired - 2);
                    slept++;
                }
            }
        }
    }

    /** The fires that leave the least dark, of all that could be. */
    private static final class FireSearch {
        private static final int MOST_FIRE = 3, NEXT_FIRES = 2 * MOST_FIRE + 1;
        private final int[] lights = new int[(MOST_FIRE + 1) * NEXT_FIRES];
        int light = 0;
        int together = 0;
        int digits = 0;

        /** The camp is one that is only thought: its fires are put otherwise. */
        void runOn(Camp camp, int most) {
            for (int k = 0; k < lights.length; k++) {
                lights[k] = camp.lightBy(k / NEXT_FIRES, k % NEXT_FIRES);
            }
            light = -1;
            int wagons = Math.min(camp.ring.many, SEARCHED_WAGONS);
            // Rising digits are the order that is asked for: a later one must be better to count.
            for (int tried = 0; tried < 1 << 2 * wagons; tried++) {
                int sum = putFires(camp.ring, wagons, tried);
                if (sum <= most) {
                    int least = leastLight(camp.ring, wagons);
                    if (least > light || least == light && sum < together) {
                        light = least;
                        together = sum;
                        digits = tried;
                    }
                }
            }
        }

        private int putFires(Ring ring, int wagons, int tried) {
            int sum = 0;
            int left = tried;
            for (int k = wagons - 1; k >= 0; k--) {
                ring.fire[k] = left & MOST_FIRE;
                sum += ring.fire[k];
                left >>= 2;
            }
            return sum;
        }

        private int leastLight(Ring ring, int wagons) {
            int least = 99;
            for (int k = 0; k < wagons; k++) {
                least = Math.min(least, lights[ring.fire[k] * NEXT_FIRES + ring.nextFires(k)]);
            }
            return least;
        }
    }

    /** A text that was read, as a row of codes: each sign stands behind what it works on. */
    private static final class Law {
        // Codes of 0 and above are numbers; these are the first name and, less the sign itself, the signs.
        private static final int FIRST_NAME = -1, LAST_NAME = -3, SIGNS = -100;
        int key = LIGHT;
        int leaves = 0;
        private final int[] codes = new int[MOST_BYTES];
        private int many = 0;
        // One stack serves all laws, as never two of them are worked at once.
        private final int[] stack;

        Law(int[] stack) {
            this.stack = stack;
        }

        void begins(int itsKey) {
            key = itsKey;
            leaves = 0;
            many = 0;
        }

        void addNumber(int number) {
            addCode(number);
            leaves++;
        }

        void addName(int name) {
            addCode(FIRST_NAME - name);
            leaves++;
        }

        void addSign(int sign) {
            addCode(SIGNS - sign);
        }

        private void addCode(int code) {
            if (many < codes.length) {
                codes[many] = code;
                many++;
            }
        }

        int work(int a, int b, int c) {
            int height = 0;
            for (int k = 0; k < many; k++) {
                int code = codes[k];
                if (code >= LAST_NAME && height < stack.length) {
                    stack[height] = code >= 0 ? code : named(code, a, b, c);
                    height++;
                } else if (code == SIGNS - '!' && height >= 1) {
                    stack[height - 1] = stack[height - 1] == 0 ? 1 : 0;
                } else if (height >= 2) {
                    height--;
                    stack[height - 1] = joined(SIGNS - code, stack[height - 1], stack[height]);
                }
            }
            return stack[0];
        }

        private static int named(int code, int a, int b, int c) {
            if (code == FIRST_NAME) {
                return a;
            }
            return code == LAST_NAME ? c : b;
        }

        private static int joined(int sign, int left, int right) {
            switch (sign) {
                case '|':
                    return left != 0 || right != 0 ? 1 : 0;
                case '&':
                    return left != 0 && right != 0 ? 1 : 0;
                case '<':
                    return left < right ? 1 : 0;
                case '=':
                    return left == right ? 1 : 0;
                case '>':
                    return left > right ? 1 : 0;
                case '+':
                    return left + right;
                case '-':
                    return left - right;
                case '*':
                    return left * right;
                default:
                    return right == 0 ? 0 : left / right;
            }
        }
    }

    /** The tape, and how it is read: by what may come next, with the signs that are still open on a stack. */
    private static final class Tape {
        private static final int SIGN = 0, LETTERS = 1, DIGITS = 2;
        private static final int TESTS = 3, MOST_OPEN = 8, MOST_DIGITS = 4;
        private final int[] bytes = new int[MOST_BYTES];
        int many = 0;
        // The word or sign that is looked at goes from the one place up to the other.
        private int from = 0;
        private int to = 0;
        private final int[] open = new int[MOST_BYTES];
        private int height = 0;
        private int parens = 0;
        private int nots = 0;
        private boolean wantsPiece = true;

        void takesNumber(int number) {
            for (int shift = 24; shift >= 0 && many < bytes.length; shift -= 8) {
                bytes[many] = number >>> shift & 255;
                many++;
            }
        }

        /** The place of the fault, or -1: the tape is a text, and the law is as it says. */
        int readInto(Law law) {
            to = 0;
            height = 0;
            parens = 0;
            nots = 0;
            wantsPiece = true;
            steps();
            int key = keyHere();
            if (key < 0) {
                return from;
            }
            law.begins(key);
            int behindKey = to;
            steps();
            if (from == behindKey && sortHere() != SIGN) {
                return from;
            }
            for (int k = 0; k < MOST_BYTES && from < many; k++) {
                boolean goesOn = wantsPiece ? takesPiece(law) : takesSign(law);
                if (!goesOn) {
                    return from;
                }
                steps();
            }
            if (wantsPiece || parens > 0) {
                return many;
            }
            closesDownTo(1, law);
            return -1;
        }

        private void steps() {
            from = to;
            while (from < many && bytes[from] == ' ') {
                from++;
            }
            to = Math.min(many, from + 1);
            int sort = sortHere();
            while (sort != SIGN && to < many && sortOf(bytes[to]) == sort) {
                to++;
            }
        }

        private int sortHere() {
            return from < many ? sortOf(bytes[from]) : SIGN;
        }

        private static int sortOf(int b) {
            if (b >= 'a' && b <= 'z') {
                return LETTERS;
            }
            return b >= '0' && b <= '9' ? DIGITS : SIGN;
        }

        private int keyHere() {
            if (isHere(LIGHT_WORD)) {
                return LIGHT;
            }
            if (isHere(FEAR_WORD)) {
                return FEAR;
            }
            return isHere(TIRE_WORD) ? TIRE : -1;
        }

        private boolean isHere(String word) {
            if (to - from != word.length()) {
                return false;
            }
            for (int k = 0; k < word.length(); k++) {
                if (bytes[from + k] != word.charAt(k)) {
                    return false;
                }
            }
            return true;
        }

        private boolean takesPiece(Law law) {
            switch (sortHere()) {
                case LETTERS:
                    return takesName(law);
                case DIGITS:
                    return takesDigits(law);
                default:
                    return opens(bytes[from]);
            }
        }

        private boolean takesName(Law law) {
            int name = namesOf(law.key).indexOf((char) bytes[from]);
            if (to - from != 1 || name < 0) {
                return false;
            }
            law.addName(name);
            endsPiece(law);
            return true;
        }

        private static String namesOf(int key) {
            if (key == LIGHT) {
                return LIGHT_NAMES;
            }
            return key == FEAR ? FEAR_NAMES : TIRE_NAMES;
        }

        private boolean takesDigits(Law law) {
            if (to - from > MOST_DIGITS) {
                return false;
            }
            int number = 0;
            for (int k = from; k < to; k++) {
                number = 10 * number + bytes[k] - '0';
            }
            law.addNumber(number);
            endsPiece(law);
            return true;
        }

        private boolean opens(int sign) {
            if (sign == '(' && parens < MOST_OPEN) {
                parens++;
            } else if (sign == '!' && nots < MOST_OPEN) {
                nots++;
            } else {
                return false;
            }
            pushes(sign);
            return true;
        }

        private void pushes(int sign) {
            if (height < open.length) {
                open[height] = sign;
                height++;
            }
        }

        /** A piece is whole: each ! right ahead of it has what it works on. */
        private void endsPiece(Law law) {
            wantsPiece = false;
            while (height > 0 && open[height - 1] == '!') {
                height--;
                nots--;
                law.addSign('!');
            }
        }

        private boolean takesSign(Law law) {
            int sign = bytes[from];
            if (sign == ')') {
                return takesClose(law);
            }
            int level = levelOf(sign);
            if (level == 0) {
                return false;
            }
            // A test has one sign at most: one that is open still is no left side, but a fault.
            closesDownTo(level == TESTS ? TESTS + 1 : level, law);
            if (level == TESTS && height > 0 && levelOf(open[height - 1]) == TESTS) {
                return false;
            }
            pushes(sign);
            wantsPiece = true;
            return true;
        }

        private boolean takesClose(Law law) {
            if (parens == 0) {
                return false;
            }
            closesDownTo(1, law);
            if (height > 0) {
                height--;
            }
            parens--;
            endsPiece(law);
            return true;
        }

        private void closesDownTo(int level, Law law) {
            while (height > 0 && levelOf(open[height - 1]) >= level) {
                height--;
                law.addSign(open[height]);
            }
        }

        /** How tight a sign between two sides binds; 0: it is none. */
        private static int levelOf(int sign) {
            switch (sign) {
                case '|':
                    return 1;
                case '&':
                    return 2;
                case '<':
                case '=':
                case '>':
                    return TESTS;
                case '+':
                case '-':
                    return 4;
                case '*':
                case '/':
                    return 5;
                default:
                    return 0;
            }
        }
    }

    /** A row of shorts or floats; both are whole numbers, so ints hold them, and NONE stands for NO NUMBER. */
    private static final class Sheet {
        int sort = MISSING;
        int many = 0;
        final int[] places = new int[MOST_PLACES];

        boolean has(int place) {
            return within(place, 0, many - 1);
        }

        boolean hasRun(int place, int length) {
            return place >= 0 && length >= 0 && length <= many && place <= many - length;
        }

        void becomes(int itsSort, int n) {
            sort = itsSort;
            many = n;
            Arrays.fill(places, 0);
        }

        void takeFrom(Sheet other) {
            sort = other.sort;
            many = other.many;
            System.arraycopy(other.places, 0, places, 0, many);
        }

        int differences(Ring ring) {
            int sum = 0;
            for (int k = 0; k < many; k++) {
                if (places[k] != NONE) {
                    int foals = ring.has(k) ? ring.foals[k] : 0;
                    sum += Math.abs(places[k] - foals);
                }
            }
            return sum;
        }
    }

    private static final class Slot {
        int thing = HOLDS_NOTHING;
        int number = 0;
        final Watcher watcher = new Watcher();
        final Sheet sheet = new Sheet();
    }
}
