import java.util.Arrays;

/**
 * Night let in for the winter: barns, boys, lamps, the law by which night leaks, days in thought and in deed,
 * what is let out, and acts and shelves. DOC.md tells what each call of the face answers.
 *
 * <p>Every row that a call works in is made with the object and used again, so that calls make nothing new.
 */
public final class NightLetIn {
    public static final int BAD = -1, NOT = -2, FULL = -3, STATE = -5, VOID = -2000000000;

    private static final int NOTHING_THERE = -11, OTHER_KIND = -12, NO_PLACE = -13, SIZE_BELOW = -14;
    private static final int NONE = -1, FINE = 0;
    private static final int MOST_BARNS = 5, MOST_BOYS = 8, MOST_LAMPS = 6, SHELVES = 6;
    private static final int WIDTH = 10, CELLS = 100;
    private static final int MOST_NIGHT = 99, MOST_BLUE = 99, MOST_BRIGHT = 19;
    private static final int MOST_DAYS = 99, MOST_HOURS = 99, MOST_TURN_DAYS = 60;

    private final Land now = new Land();
    private final Reader tape = new Reader();
    private final Law rule = new Law();
    /** What days in thought pass over: a copy of the land. */
    private final Land thought = new Land();
    private final Turner turner = new Turner();
    private final Beds bedding = new Beds();
    private final Deal dealing = new Deal();
    private final Way way = new Way();
    private final Changes changes = new Changes();
    private final Ledger ledger = new Ledger();
    private final Acts acts = new Acts();
    private final Shelf[] shelves = new Shelf[SHELVES];

    public NightLetIn() {
        for (int i = 0; i < SHELVES; i++) {
            shelves[i] = new Shelf();
        }
    }

    // ---- barns, boys, lamps

    public int barn(int xy, int night) {
        if (!isCell(xy) || !isWithin(night, 0, MOST_NIGHT)) {
            return BAD;
        }
        return now.addBarn(xy, night);
    }

    public int boy(int needs) {
        if (!Land.allowsNeeds(needs)) {
            return BAD;
        }
        return now.addBoy(needs, NONE);
    }

    public int boys(int shelf, int i, int n) {
        Shelf from = shelfAt(shelf);
        if (from == null || !isWithin(n, 1, MOST_BOYS)) {
            return BAD;
        }
        int refusal = from.refusalAsBytes();
        if (refusal == NOTHING_THERE) {
            return 0;
        }
        return refusal != FINE ? refusal : boysFrom(from, i, n);
    }

    private int boysFrom(Shelf from, int i, int n) {
        int came = 0;
        for (int place = i; came < n && from.hasPlaces(place, 2) && now.boys < MOST_BOYS; place += 2) {
            int needs = from.smallAt(place);
            int barn = from.smallAt(place + 1);
            if (!Land.allowsNeeds(needs) || !now.allowsPlace(barn)) {
                break;
            }
            now.addBoy(needs, barn);
            came++;
        }
        return came;
    }

    public int lamp(int xy, int bright) {
        if (!isCell(xy) || !isWithin(bright, 0, MOST_BRIGHT)) {
            return BAD;
        }
        return now.addLamp(xy, bright);
    }

    public int mend(int number, int what, int v) {
        if (!now.hasNumber(number, what) || !now.allows(what, v)) {
            return VOID;
        }
        int was = now.numberAt(number, what);
        if (was != v) {
            changes.add(number, what, was, v);
            now.setNumber(number, what, v);
        }
        return was;
    }

    public int of(int number, int what) {
        if (now.hasNumber(number, what)) {
            return now.numberAt(number, what);
        }
        if (!now.hasBarn(number) || !isWithin(what, 9, 10)) {
            return VOID;
        }
        int cell = now.barnCell[number];
        return what == 9 ? cell : now.lightAt(cell);
    }

    public int feed(int letter) {
        if (!isWithin(letter, 0, 255)) {
            return BAD;
        }
        return tape.add(letter);
    }

    public int law() {
        int fault = tape.read();
        if (fault != NONE) {
            return -100 - fault;
        }
        rule.take(tape);
        return 1;
    }

    // ---- days in thought

    public int later(int shelf, int n, int barn, int what) {
        Shelf turns = shelfAt(shelf);
        if (turns == null || !isWithin(n, 0, MOST_DAYS) || !now.hasBarn(barn) || !isWithin(what, 0, 1)) {
            return BAD;
        }
        int refusal = turns.refusalAsBytes();
        if (refusal != FINE) {
            return refusal;
        }
        thought.copyDays(now);
        // Barns do not touch one another: one may pass its days alone.
        for (int day = 0; day < n; day++) {
            thought.passAt(barn, rule, day, turns.turnOn(day) == barn);
        }
        return what == 0 ? thought.night[barn] : thought.blue[barn];
    }

    public int sleeps(int shelf, int n) {
        Shelf turns = shelfAt(shelf);
        if (turns == null || !isWithin(n, 0, MOST_DAYS)) {
            return BAD;
        }
        int refusal = turns.refusalAsBytes();
        if (refusal != FINE) {
            return refusal;
        }
        thought.copyDays(now);
        for (int day = 0; day < n; day++) {
            thought.passDay(rule, day, turns.turnOn(day));
        }
        return thought.sleepers();
    }

    public int often(int shelf, int n, int boy) {
        Shelf turns = shelfAt(shelf);
        if (turns == null || !isWithin(n, 0, MOST_DAYS) || !isWithin(boy, -1, now.boys - 1)) {
            return BAD;
        }
        int refusal = turns.refusalAsBytes();
        if (refusal != FINE) {
            return refusal;
        }
        int wanted = boy < 0 ? now.everyone() : 1 << boy;
        int times = 0;
        thought.copyDays(now);
        for (int day = 0; day < n; day++) {
            if ((thought.sleepers() & wanted) == wanted) {
                times++;
            }
            thought.passDay(rule, day, turns.turnOn(day));
        }
        return times;
    }

    public int blue(int shelf, int barn) {
        Shelf turns = shelfAt(shelf);
        if (turns == null || !now.hasBarn(barn)) {
            return BAD;
        }
        int refusal = turns.refusalAsBytes();
        if (refusal != FINE) {
            return refusal;
        }
        thought.copyDays(now);
        for (int day = 0; day <= MOST_DAYS; day++) {
            if (thought.isBlue(barn)) {
                return day;
            }
            thought.age(barn, turns.turnOn(day) == barn);
        }
        return NOT;
    }

    public int keeps(int barn, int v) {
        if (!now.hasBarn(barn) || !isWithin(v, 0, MOST_NIGHT)) {
            return BAD;
        }
        thought.copyDays(now);
        for (int day = 0; day <= MOST_DAYS; day++) {
            if (thought.night[barn] < v) {
                return day;
            }
            thought.passAt(barn, rule, day, false);
        }
        return NOT;
    }

    public int turnings(int n, int k) {
        if (!isWithin(n, 0, MOST_TURN_DAYS) || !isWithin(k, -1, n - 1)) {
            return BAD;
        }
        thought.copyDays(now);
        int turned = turner.find(thought, n);
        if (turned == NONE) {
            return NOT;
        }
        return k < 0 ? turned : orNot(turner.plan[k]);
    }

    public int beds(int k) {
        if (!isWithin(k, -1, now.boys - 1)) {
            return BAD;
        }
        if (now.boys > Beds.MOST) {
            return STATE;
        }
        bedding.find(now);
        return k < 0 ? bedding.sleeping() : orNot(bedding.placeOf(k));
    }

    public int deal(int v, int k) {
        if (!isWithin(v, 0, MOST_NIGHT) || !isWithin(k, -1, now.barns - 1)) {
            return BAD;
        }
        int sleeping = dealing.find(now, v);
        return k < 0 ? sleeping : dealing.gets[k];
    }

    // ---- let out

    public int out(int barn, int what) {
        if (!now.hasBarn(barn) || !isWithin(what, 0, 1)) {
            return BAD;
        }
        way.letOutOf(now, barn);
        if (what == 1) {
            return way.unlikeCells();
        }
        return way.hours > MOST_HOURS ? NOT : way.hours;
    }

    public int where(int barn, int h) {
        if (!now.hasBarn(barn) || !isWithin(h, 0, MOST_HOURS)) {
            return BAD;
        }
        way.letOutOf(now, barn);
        return h < way.hours ? way.cells[h] : NOT;
    }

    public int stays(int barn, int bright, int what) {
        if (!now.hasBarn(barn) || !isWithin(bright, 0, MOST_BRIGHT) || !isWithin(what, 0, 1)) {
            return BAD;
        }
        way.shine(now);
        int longest = 0;
        int best = 0;
        for (int cell = 0; cell < CELLS; cell++) {
            way.go(now.barnCell[barn], cell, bright);
            if (way.hours > longest) {
                longest = way.hours;
                best = cell;
            }
        }
        return what == 0 ? best : longest;
    }

    public int meet(int barn, int xy, int what) {
        if (!now.hasBarn(barn) || !isCell(xy) || !isWithin(what, 0, 1)) {
            return BAD;
        }
        way.letOutOf(now, barn);
        for (int h = 0; h <= MOST_HOURS && h < way.hours; h++) {
            if (Land.apart(xy, way.cells[h]) <= h) {
                return what == 0 ? h : way.cells[h];
            }
        }
        return NOT;
    }

    public int darkest(int what) {
        if (!isWithin(what, 0, 1)) {
            return BAD;
        }
        way.shine(now);
        int best = 0;
        for (int cell = 1; cell < CELLS; cell++) {
            if (way.light[cell] < way.light[best]) {
                best = cell;
            }
        }
        return what == 0 ? best : way.light[best];
    }

    // ---- who slept

    public int judge(int shelf) {
        Shelf slept = shelfAt(shelf);
        if (slept == null) {
            return BAD;
        }
        int refusal = slept.refusalAsBytes();
        if (refusal != FINE) {
            return refusal;
        }
        thought.copyDays(now);
        return orNot(firstUnlike(slept));
    }

    public int howBad(int shelf, int barn) {
        Shelf slept = shelfAt(shelf);
        if (slept == null || !now.hasBarn(barn)) {
            return BAD;
        }
        int refusal = slept.refusalAsBytes();
        if (refusal != FINE) {
            return refusal;
        }
        for (int latch = 0; latch <= 9; latch++) {
            if (isSoWith(slept, barn, Land.LATCH, latch)) {
                return latch;
            }
        }
        return NOT;
    }

    public int thawed(int shelf, int what) {
        Shelf slept = shelfAt(shelf);
        if (slept == null || !isWithin(what, 0, 1)) {
            return BAD;
        }
        int refusal = slept.refusalAsBytes();
        if (refusal != FINE) {
            return refusal;
        }
        int many = 0;
        int least = NOT;
        for (int thaw = 9; thaw >= 0; thaw--) {
            if (isSoWith(slept, 0, Land.THAW, thaw)) {
                many++;
                least = thaw;
            }
        }
        return what == 0 ? many : least;
    }

    public int which(int shelf, int boy) {
        Shelf slept = shelfAt(shelf);
        if (slept == null || !now.hasBoy(boy)) {
            return BAD;
        }
        int refusal = slept.refusalAsBytes();
        if (refusal != FINE) {
            return refusal;
        }
        int bits = isSoWith(slept, boy, Land.PLACE, NONE) ? 1 << MOST_BARNS : 0;
        for (int barn = 0; barn < now.barns; barn++) {
            if (isSoWith(slept, boy, Land.PLACE, barn)) {
                bits |= 1 << barn;
            }
        }
        return bits;
    }

    /** Whether all slept as told, if one number of the land were another. */
    private boolean isSoWith(Shelf slept, int number, int what, int v) {
        thought.copyDays(now);
        thought.setNumber(number, what, v);
        return firstUnlike(slept) == NONE;
    }

    /** The first day in thought on which others sleep than the row tells, or NONE. */
    private int firstUnlike(Shelf slept) {
        for (int day = 0; day < slept.size; day++) {
            if (thought.sleepers() != (slept.smallAt(day) & 255)) {
                return day;
            }
            thought.passDay(rule, day, NONE);
        }
        return NONE;
    }

    public int share(int v, int barn) {
        if (!isWithin(v, 0, 999) || !now.hasBarn(barn)) {
            return BAD;
        }
        int all = now.allNeeds();
        int left = v;
        for (int other = 0; other < now.barns; other++) {
            left -= shareOf(v, other, all);
        }
        return shareOf(v, barn, all) + (barn < left ? 1 : 0);
    }

    private int shareOf(int v, int barn, int all) {
        if (all > 0) {
            return v * now.needsIn(barn) / all;
        }
        return now.barns > 0 ? v / now.barns : 0;
    }

    public int drawn(int seed, int nm, int what) {
        int winters = nm / 100;
        int days = nm % 100;
        if (!isWithin(winters, 1, 30) || !isWithin(days, 1, 60) || !isWithin(what, 0, 1)) {
            return BAD;
        }
        int z = seed;
        int slept = 0;
        int blue = 0;
        for (int winter = 0; winter < winters; winter++) {
            thought.copyDays(now);
            for (int day = 0; day < days; day++) {
                z = z * 1103515245 + 12345;
                if (thought.sleepers() == thought.everyone()) {
                    slept++;
                }
                thought.passDay(rule, day, (z >>> 8) % 8);
            }
            blue += thought.blueBarns();
        }
        return what == 0 ? slept : blue;
    }

    // ---- in deed

    public int day(int barn) {
        if (!isWithin(barn, -1, MOST_BARNS - 1)) {
            return BAD;
        }
        int who = now.sleepers();
        now.passDay(rule, 0, barn);
        ledger.told[Ledger.DAYS]++;
        ledger.told[Ledger.SLEEPS] += Integer.bitCount(who);
        if (now.hasBarn(barn)) {
            ledger.told[Ledger.TURNS]++;
        }
        return who;
    }

    public int fork(int barn, int v) {
        if (!now.hasBarn(barn) || !isWithin(v, 1, MOST_NIGHT)) {
            return BAD;
        }
        if (now.night[barn] + v > MOST_NIGHT) {
            return STATE;
        }
        now.night[barn] += v;
        ledger.told[Ledger.FORKED] += v;
        return now.night[barn];
    }

    public int letOut(int barn) {
        if (!now.hasBarn(barn)) {
            return BAD;
        }
        int had = now.night[barn];
        now.night[barn] = 0;
        ledger.told[Ledger.LET_OUT] += had;
        return had;
    }

    public int led(int what) {
        return isWithin(what, 0, Ledger.LET_OUT) ? ledger.told[what] : BAD;
    }

    public int image() {
        ledger.takeImage(now);
        return ledger.told[Ledger.DAYS];
    }

    public int back() {
        if (!ledger.hasImage()) {
            return STATE;
        }
        ledger.layBack(now);
        return ledger.told[Ledger.DAYS];
    }

    public int undo() {
        return changes.takeBack(now);
    }

    public int redo() {
        return changes.bringBack(now);
    }

    // ---- acts, shelves

    public int body(int kind) {
        if (!isWithin(kind, 0, Acts.KINDS - 1)) {
            return BAD;
        }
        return acts.add(kind);
    }

    public int act(int body, int act, int x) {
        acts.ran = 0;
        return acts.hasBody(body) && isWithin(act, 0, Acts.ACTS - 1) ? acts.start(body, act, x) : 0;
    }

    public int trace(int i) {
        return isWithin(i, 0, Math.min(acts.ran, Acts.TRACED) - 1) ? acts.begun[i] : BAD;
    }

    public int keep(int shelf, int body) {
        Shelf on = shelfAt(shelf);
        if (on == null || (body != NONE && !acts.hasBody(body))) {
            return BAD;
        }
        on.holdBody(body);
        return 1;
    }

    public int row(int shelf, int sort, int n) {
        Shelf on = shelfAt(shelf);
        if (on == null || !isWithin(sort, 0, Shelf.BOOLEANS) || n > Shelf.MOST) {
            return BAD;
        }
        if (n < 0) {
            return SIZE_BELOW;
        }
        on.holdRow(sort, n);
        return 1;
    }

    public int put(int shelf, int i, long v) {
        Shelf on = shelfAt(shelf);
        if (on == null) {
            return BAD;
        }
        int refusal = on.refusalAt(i);
        if (refusal != FINE) {
            return refusal;
        }
        on.elements[i] = Shelf.cut(on.sort, v);
        return 1;
    }

    public long element(int shelf, int i) {
        Shelf on = shelfAt(shelf);
        return on == null || on.refusalAt(i) != FINE ? Long.MIN_VALUE : on.elements[i];
    }

    public int shift(int shelf, int i, int other, int j, int n) {
        Shelf from = shelfAt(shelf);
        Shelf to = shelfAt(other);
        if (from == null || to == null) {
            return BAD;
        }
        if (from.holds == Shelf.NOTHING || to.holds == Shelf.NOTHING) {
            return NOTHING_THERE;
        }
        if (from.holds != Shelf.ROW || to.holds != Shelf.ROW || from.sort != to.sort) {
            return OTHER_KIND;
        }
        if (!from.hasPlaces(i, n) || !to.hasPlaces(j, n)) {
            return NO_PLACE;
        }
        System.arraycopy(from.elements, i, to.elements, j, n);
        return n;
    }

    public int taken(int shelf, int k) {
        Shelf on = shelfAt(shelf);
        if (on == null || !isWithin(k, 0, Acts.KINDS - 1)) {
            return BAD;
        }
        if (on.holds == Shelf.NOTHING) {
            return NOTHING_THERE;
        }
        if (on.holds != Shelf.BODY || !acts.hasBody(on.body)) {
            return OTHER_KIND;
        }
        int kind = acts.kindOf[on.body];
        return Acts.isUnder(kind, k) ? kind : OTHER_KIND;
    }

    public int count(int what) {
        switch (what) {
            case 0: return now.barns;
            case 1: return now.boys;
            case 2: return now.lamps;
            case 3: return tape.length;
            case 4: return changes.done;
            case 5: return acts.bodies;
            case 6: return acts.ran;
            default: return BAD;
        }
    }

    private Shelf shelfAt(int shelf) {
        return isWithin(shelf, 0, SHELVES - 1) ? shelves[shelf] : null;
    }

    private static boolean isWithin(int v, int least, int most) {
        return v >= least && v <= most;
    }

    private static boolean isCell(int xy) {
        return isWithin(xy, 0, CELLS - 1);
    }

    private static int orNot(int v) {
        return v == NONE ? NOT : v;
    }

    /** All that mend() can change, and how a day passes over it. */
    private static final class Land {
        static final int NIGHT = 0, BLUE = 1, LATCH = 2, NEEDS = 3, PLACE = 4, LAMP_CELL = 5, BRIGHT = 6;
        static final int THAW = 7, LIMIT = 8;
        private static final int[] LEAST = {0, 0, 0, 0, NONE, 0, 0, 0, 1};
        private static final int[] MOST = {MOST_NIGHT, MOST_BLUE, 9, 30, MOST_BARNS - 1, CELLS - 1, MOST_BRIGHT, 9, 20};

        int barns;
        int boys;
        int lamps;
        int thaw;
        int limit = 7;
        final int[] barnCell = new int[MOST_BARNS];
        final int[] night = new int[MOST_BARNS];
        final int[] blue = new int[MOST_BARNS];
        final int[] latch = new int[MOST_BARNS];
        final int[] needs = new int[MOST_BOYS];
        final int[] place = new int[MOST_BOYS];
        final int[] lampCell = new int[MOST_LAMPS];
        final int[] bright = new int[MOST_LAMPS];
        /** How many lie in each barn; told anew whenever a boy comes or moves. */
        final int[] lying = new int[MOST_BARNS];

        /** Lamps and cells stay behind: no thought asks for them. */
        void copyDays(Land from) {
            barns = from.barns;
            boys = from.boys;
            thaw = from.thaw;
            limit = from.limit;
            System.arraycopy(from.night, 0, night, 0, MOST_BARNS);
            System.arraycopy(from.blue, 0, blue, 0, MOST_BARNS);
            System.arraycopy(from.latch, 0, latch, 0, MOST_BARNS);
            System.arraycopy(from.needs, 0, needs, 0, MOST_BOYS);
            System.arraycopy(from.place, 0, place, 0, MOST_BOYS);
            System.arraycopy(from.lying, 0, lying, 0, MOST_BARNS);
        }

        int addBarn(int cell, int firstNight) {
            if (barns >= MOST_BARNS) {
                return FULL;
            }
            barnCell[barns] = cell;
            night[barns] = firstNight;
            blue[barns] = 0;
            latch[barns] = 1;
            return barns++;
        }

        int addBoy(int firstNeeds, int firstPlace) {
            if (boys >= MOST_BOYS) {
                return FULL;
            }
            needs[boys] = firstNeeds;
            place[boys] = firstPlace;
            boys++;
            countLying();
            return boys - 1;
        }

        int addLamp(int cell, int firstBright) {
            if (lamps >= MOST_LAMPS) {
                return FULL;
            }
            lampCell[lamps] = cell;
            bright[lamps] = firstBright;
            return lamps++;
        }

        boolean hasBarn(int number) {
            return isWithin(number, 0, barns - 1);
        }

        boolean hasBoy(int number) {
            return isWithin(number, 0, boys - 1);
        }

        boolean hasNumber(int number, int what) {
            if (!isWithin(what, NIGHT, LIMIT)) {
                return false;
            }
            if (what <= LATCH) {
                return hasBarn(number);
            }
            if (what <= PLACE) {
                return hasBoy(number);
            }
            return what <= BRIGHT ? isWithin(number, 0, lamps - 1) : number == 0;
        }

        boolean allows(int what, int v) {
            if (what == PLACE) {
                return allowsPlace(v);
            }
            return isWithin(what, NIGHT, LIMIT) && isWithin(v, LEAST[what], MOST[what]);
        }

        boolean allowsPlace(int v) {
            return v == NONE || hasBarn(v);
        }

        static boolean allowsNeeds(int v) {
            return isWithin(v, LEAST[NEEDS], MOST[NEEDS]);
        }

        int numberAt(int number, int what) {
            int[] row = rowOf(what);
            if (row == null) {
                return what == THAW ? thaw : limit;
            }
            return isWithin(number, 0, row.length - 1) ? row[number] : VOID;
        }

        void setNumber(int number, int what, int v) {
            int[] row = rowOf(what);
            if (row != null && isWithin(number, 0, row.length - 1)) {
                row[number] = v;
            } else if (what == THAW) {
                thaw = v;
            } else if (what == LIMIT) {
                limit = v;
            }
            if (what == PLACE) {
                countLying();
            }
        }

        private int[] rowOf(int what) {
            switch (what) {
                case NIGHT: return night;
                case BLUE: return blue;
                case LATCH: return latch;
                case NEEDS: return needs;
                case PLACE: return place;
                case LAMP_CELL: return lampCell;
                case BRIGHT: return bright;
                default: return null;
            }
        }

        private void countLying() {
            Arrays.fill(lying, 0);
            for (int boy = 0; boy < boys; boy++) {
                if (hasBarn(place[boy])) {
                    lying[place[boy]]++;
                }
            }
        }

        int lightAt(int cell) {
            int light = 0;
            for (int lamp = 0; lamp < lamps; lamp++) {
                light += Math.max(0, bright[lamp] - apart(cell, lampCell[lamp]));
            }
            return light;
        }

        static int apart(int cell, int other) {
            return Math.abs(cell % WIDTH - other % WIDTH) + Math.abs(cell / WIDTH - other / WIDTH);
        }

        boolean isBlue(int barn) {
            return blue[barn] >= limit;
        }

        int blueBarns() {
            int many = 0;
            for (int barn = 0; barn < barns; barn++) {
                many += isBlue(barn) ? 1 : 0;
            }
            return many;
        }

        int everyone() {
            return (1 << boys) - 1;
        }

        /** Who sleeps today, as bits. */
        int sleepers() {
            int who = 0;
            for (int boy = 0; boy < boys; boy++) {
                int barn = place[boy];
                if (hasBarn(barn) && !isBlue(barn) && lying[barn] > 0 && night[barn] / lying[barn] >= needs[boy]) {
                    who |= 1 << boy;
                }
            }
            return who;
        }

        int needsIn(int barn) {
            int all = 0;
            for (int boy = 0; boy < boys; boy++) {
                all += place[boy] == barn ? needs[boy] : 0;
            }
            return all;
        }

        /** What all need who lie in a barn. */
        int allNeeds() {
            int all = 0;
            for (int barn = 0; barn < barns; barn++) {
                all += needsIn(barn);
            }
            return all;
        }

        void passDay(Law law, int passed, int turned) {
            for (int barn = 0; barn < barns; barn++) {
                passAt(barn, law, passed, barn == turned);
            }
        }

        void passAt(int barn, Law law, int passed, boolean turned) {
            int later = law.nightLater(this, barn, passed);
            night[barn] = Math.max(0, Math.min(MOST_NIGHT, later));
            age(barn, turned);
        }

        void age(int barn, boolean turned) {
            blue[barn] = turned ? 0 : Math.min(MOST_BLUE, blue[barn] + 1);
        }
    }

    /** The tape, and how a text on it becomes steps for the law (each operand ahead of its sign). */
    private static final class Reader {
        static final int MOST = 120;
        /** A byte gives one step at most, but for the end of a line that no byte tells: the last one's. */
        static final int MOST_STEPS = MOST + 1;
        /** Steps: numbers as they are; names from here on; signs below 0. */
        static final int FIRST_NAME = 10000;
        static final int NEGATE = -'~';
        private static final String NAMES = "abltnd";
        private static final int MOST_OPEN = 6, MOST_DIGITS = 4;
        private static final int COMPARING = 2, OPERAND = 5;

        private final int[] bytes = new int[MOST];
        int length;
        final int[] steps = new int[MOST_STEPS];
        int stepped;
        private int at;

        int add(int letter) {
            if (length >= MOST) {
                return FULL;
            }
            bytes[length] = letter;
            length++;
            return length;
        }

        /** Reads the tape, which is empty then: NONE if it was a text, else its fault. */
        int read() {
            at = 0;
            stepped = 0;
            boolean going = readLine();
            for (int line = 1; line < MOST && going && isAt(';'); line++) {
                at++;
                going = readLine();
            }
            boolean whole = going && at == length;
            length = 0;
            return whole ? NONE : at;
        }

        private boolean readLine() {
            if (!readLevel(0, 0)) {
                return false;
            }
            if (isAt('?')) {
                at++;
                step(-'?');
                if (!readLevel(0, 0)) {
                    return false;
                }
            }
            step(-';');
            return true;
        }

        /** Reads what is joined by signs of a level, from the loosest (0) up to what stands alone (OPERAND). */
        private boolean readLevel(int level, int open) {
            if (level >= OPERAND) {
                return readOperand(open);
            }
            boolean going = readLevel(level + 1, open);
            int mostSigns = level == COMPARING ? 1 : MOST;
            for (int signs = 0; signs < mostSigns && going && at < length && levelOf(bytes[at]) == level; signs++) {
                int sign = bytes[at];
                at++;
                going = readLevel(level + 1, open);
                step(-sign);
            }
            return going;
        }

        private static int levelOf(int sign) {
            switch (sign) {
                case '|': return 0;
                case '&': return 1;
                case '<': case '=': case '>': return COMPARING;
                case '+': case '-': return 3;
                case '*': case '/': case '%': return 4;
                default: return NONE;
            }
        }

        private boolean readOperand(int open) {
            if (at >= length) {
                return false;
            }
            if (isDigit(bytes[at])) {
                readNumber();
                return true;
            }
            int name = NAMES.indexOf((char) bytes[at]);
            if (name >= 0) {
                at++;
                step(FIRST_NAME + name);
                return true;
            }
            return open < MOST_OPEN && readOpened(open + 1);
        }

        private boolean readOpened(int open) {
            int sign = at < length ? bytes[at] : NONE;
            if (sign != '(' && sign != '!' && sign != '-') {
                return false;
            }
            at++;
            if (sign == '(') {
                boolean closed = readLevel(0, open) && isAt(')');
                at += closed ? 1 : 0;
                return closed;
            }
            boolean going = readOperand(open);
            step(sign == '!' ? -'!' : NEGATE);
            return going;
        }

        private void readNumber() {
            int number = 0;
            for (int digits = 0; digits < MOST_DIGITS && at < length && isDigit(bytes[at]); digits++) {
                number = number * 10 + bytes[at] - '0';
                at++;
            }
            step(number);
        }

        private static boolean isDigit(int letter) {
            return isWithin(letter, '0', '9');
        }

        private boolean isAt(int letter) {
            return at < length && bytes[at] == letter;
        }

        private void step(int step) {
            if (stepped < MOST_STEPS) {
                steps[stepped] = step;
                stepped++;
            }
        }
    }

    /** The law in force, by the steps that a text gave. */
    private static final class Law {
        /** Enough: within each of six brackets, and outside, five levels of signs can wait for what is behind them. */
        private static final int MOST_PENDING = 64;

        private final int[] steps = new int[Reader.MOST_STEPS];
        private int length;
        private final int[] named = new int[6];
        private final int[] pending = new int[MOST_PENDING];

        void take(Reader read) {
            length = Math.min(read.stepped, Reader.MOST_STEPS);
            System.arraycopy(read.steps, 0, steps, 0, length);
        }

        int nightLater(Land land, int barn, int passed) {
            if (length == 0) {
                return land.night[barn] - land.latch[barn] - land.thaw / 3;
            }
            named[0] = land.night[barn];
            named[1] = land.blue[barn];
            named[2] = land.latch[barn];
            named[3] = land.thaw;
            named[4] = land.lying[barn];
            named[5] = passed;
            return workOut();
        }

        private int workOut() {
            int top = 0;
            for (int at = 0; at < length; at++) {
                int step = steps[at];
                if (step == -';') {
                    return pending[0];
                }
                if (step == -'?') {
                    at = pending[0] != 0 ? at : endOfLine(at);
                    top = 0;
                } else if (step >= 0 && top < MOST_PENDING) {
                    pending[top] = valueOf(step);
                    top++;
                } else if ((step == -'!' || step == Reader.NEGATE) && top >= 1) {
                    pending[top - 1] = step == Reader.NEGATE ? -pending[top - 1] : pending[top - 1] == 0 ? 1 : 0;
                } else if (top >= 2) {
                    pending[top - 2] = joined(-step, pending[top - 2], pending[top - 1]);
                    top--;
                }
            }
            return 0;
        }

        private int endOfLine(int from) {
            int end = from;
            while (end < length && steps[end] != -';') {
                end++;
            }
            return end;
        }

        private int valueOf(int step) {
            int name = step - Reader.FIRST_NAME;
            return name >= 0 && name < named.length ? named[name] : step;
        }

        private static int joined(int sign, int left, int right) {
            switch (sign) {
                case '|': return left != 0 || right != 0 ? 1 : 0;
                case '&': return left != 0 && right != 0 ? 1 : 0;
                case '<': return left < right ? 1 : 0;
                case '=': return left == right ? 1 : 0;
                case '>': return left > right ? 1 : 0;
                case '+': return left + right;
                case '-': return left - right;
                case '*': return left * right;
                case '/': return right == 0 ? 0 : left / right;
                case '%': return right == 0 ? 0 : left % right;
                default: return 0;
            }
        }
    }

    /** Turnings, one a day at most, by which nothing goes blue. */
    private static final class Turner {
        /** The barn that is turned day by day, or NONE. */
        final int[] plan = new int[MOST_TURN_DAYS];

        /** How many are turned in n days, which pass over the land; NONE if a barn is blue all the same. */
        int find(Land land, int n) {
            int turned = 0;
            for (int day = 0; day < n && day < MOST_TURN_DAYS; day++) {
                if (land.blueBarns() > 0) {
                    return NONE;
                }
                plan[day] = choose(land, n - 1 - day);
                turned += plan[day] == NONE ? 0 : 1;
                for (int barn = 0; barn < land.barns; barn++) {
                    land.age(barn, barn == plan[day]);
                }
            }
            return turned;
        }

        /** The bluest barn, if it would be blue by so many days more. */
        private static int choose(Land land, int days) {
            int best = NONE;
            for (int barn = 0; barn < land.barns; barn++) {
                if (best == NONE || land.blue[barn] > land.blue[best]) {
                    best = barn;
                }
            }
            return best != NONE && land.blue[best] + days >= land.limit ? best : NONE;
        }
    }

    /**
     * Who should lie where. What a choice is worth is one number: how many sleep times CHOICES, and its rank; a
     * place of an earlier boy weighs more in the rank, and an earlier barn ranks higher, so that no two are alike.
     */
    private static final class Beds {
        static final int MOST = 6;
        private static final int CHOICES = 46656;
        private static final int[] WEIGHT = {7776, 1296, 216, 36, 6, 1};
        private static final int RANKS = 6;

        /** The most that a set of boys (bits) is worth, in the barns seen so far or in none. */
        private final int[] worth = new int[1 << MOST];
        private final int[] here = new int[1 << MOST];
        private int best;

        void find(Land land) {
            int sets = 1 << Math.min(land.boys, MOST);
            Arrays.fill(worth, 0);
            for (int barn = 0; barn < land.barns; barn++) {
                for (int set = 0; set < sets; set++) {
                    here[set] = worthIn(land, barn, set);
                }
                // From the largest on: what is less is still as it was without this barn.
                for (int set = sets - 1; set > 0; set--) {
                    worth[set] = most(set);
                }
            }
            best = worth[sets - 1];
        }

        private int most(int set) {
            int most = worth[set];
            for (int part = set; part > 0; part = (part - 1) & set) {
                most = Math.max(most, worth[set ^ part] + here[part]);
            }
            return most;
        }

        private static int worthIn(Land land, int barn, int set) {
            int many = Integer.bitCount(set);
            int each = many == 0 || land.isBlue(barn) ? NONE : land.night[barn] / many;
            int sum = 0;
            for (int boy = 0; boy < land.boys && boy < MOST; boy++) {
                if ((set >> boy & 1) != 0) {
                    sum += WEIGHT[boy] * (MOST_BARNS - barn) + (each >= land.needs[boy] ? CHOICES : 0);
                }
            }
            return sum;
        }

        int sleeping() {
            return best / CHOICES;
        }

        int placeOf(int boy) {
            int rank = isWithin(boy, 0, MOST - 1) ? best % CHOICES / WEIGHT[boy] % RANKS : 0;
            return rank == 0 ? NONE : MOST_BARNS - rank;
        }
    }

    /** How so much night should be dealt so that most sleep. */
    private static final class Deal {
        private static final int COUNTS = MOST_BOYS + 1;
        /** More than there can be to deal, even once. */
        private static final int TOO_MUCH = 1000;

        final int[] gets = new int[MOST_BARNS];
        /** At COUNTS barn and s: the least night with which s sleep in this barn. */
        private final int[] price = new int[MOST_BARNS * COUNTS];
        /** The same for this barn and all behind it together. */
        private final int[] least = new int[(MOST_BARNS + 1) * COUNTS];

        /** How many sleep at most; what each barn gets is in gets then. */
        int find(Land land, int v) {
            Arrays.fill(least, TOO_MUCH);
            least[land.barns * COUNTS] = 0;
            for (int barn = land.barns - 1; barn >= 0; barn--) {
                findPrices(land, barn);
                for (int s = 0; s < COUNTS; s++) {
                    least[barn * COUNTS + s] = leastFor(barn, s);
                }
            }
            int most = 0;
            for (int s = 1; s < COUNTS; s++) {
                most = least[s] <= v ? s : most;
            }
            hand(land.barns, v, most);
            return most;
        }

        private void findPrices(Land land, int barn) {
            int row = barn * COUNTS;
            for (int s = 0; s < COUNTS; s++) {
                price[row + s] = s == 0 ? 0 : TOO_MUCH;
            }
            int priced = 0;
            for (int needs = 0; needs <= Land.MOST[Land.NEEDS] && !land.isBlue(barn); needs++) {
                for (int boy = 0; boy < land.boys; boy++) {
                    if (land.place[boy] == barn && land.needs[boy] == needs && priced < MOST_BOYS) {
                        priced++;
                        price[row + priced] = needs * land.lying[barn];
                    }
                }
            }
        }

        private int leastFor(int barn, int s) {
            int best = TOO_MUCH;
            for (int inside = 0; inside <= s; inside++) {
                best = Math.min(best, sumFor(barn, inside, s - inside));
            }
            return best;
        }

        private int sumFor(int barn, int inside, int behind) {
            return price[barn * COUNTS + inside] + least[(barn + 1) * COUNTS + behind];
        }

        /** A barn's price rises with who sleeps there, so that the first count that will do gives it least. */
        private void hand(int barns, int v, int most) {
            int left = v;
            int wanted = most;
            for (int barn = 0; barn < barns; barn++) {
                int inside = 0;
                while (inside < wanted && sumFor(barn, inside, wanted - inside) > left) {
                    inside++;
                }
                gets[barn] = price[barn * COUNTS + inside];
                left -= gets[barn];
                wanted -= inside;
            }
        }
    }

    /** The way of a dark that was let out. */
    private static final class Way {
        private static final int[] SIDE_X = {0, 1, 0, -1};
        private static final int[] SIDE_Y = {-1, 0, 1, 0};
        private static final int OUT = -1;
        /** More light than all lamps can give a cell. */
        private static final int TOO_LIGHT = 1000;

        final int[] light = new int[CELLS];
        /** Where it is behind so many hours, as long as these are less than hours. */
        final int[] cells = new int[MOST_HOURS + 1];
        /** Behind how many hours it is out; one more than MOST_HOURS if it is not. */
        int hours;
        private final int[] seen = new int[CELLS];
        private int moreCell;
        private int moreBright;

        void shine(Land land) {
            for (int cell = 0; cell < CELLS; cell++) {
                light[cell] = land.lightAt(cell);
            }
        }

        void letOutOf(Land land, int barn) {
            shine(land);
            go(land.barnCell[barn], 0, 0);
        }

        /** Goes by the light that shines, and by one lamp more (with bright 0 it changes nothing). */
        void go(int start, int lampCell, int bright) {
            moreCell = lampCell;
            moreBright = bright;
            hours = MOST_HOURS + 1;
            int before = OUT;
            int cell = start;
            cells[0] = start;
            for (int hour = 1; hour <= MOST_HOURS; hour++) {
                int next = nextOf(cell, before);
                if (next == OUT) {
                    hours = hour;
                    return;
                }
                before = cell;
                cell = next;
                cells[hour] = next;
            }
        }

        private int nextOf(int cell, int before) {
            int best = OUT;
            int least = TOO_LIGHT;
            for (int side = 0; side < SIDE_X.length; side++) {
                int next = beside(cell, side);
                int lit = next == OUT ? 0 : lightOf(next);
                if ((next == OUT || next != before) && lit < least) {
                    best = next;
                    least = lit;
                }
            }
            return best;
        }

        private static int beside(int cell, int side) {
            int x = cell % WIDTH + SIDE_X[side];
            int y = cell / WIDTH + SIDE_Y[side];
            return isWithin(x, 0, WIDTH - 1) && isWithin(y, 0, WIDTH - 1) ? y * WIDTH + x : OUT;
        }

        private int lightOf(int cell) {
            return light[cell] + Math.max(0, moreBright - Land.apart(cell, moreCell));
        }

        int unlikeCells() {
            Arrays.fill(seen, 0);
            int many = 0;
            for (int hour = 0; hour <= MOST_HOURS && hour < hours; hour++) {
                many += 1 - seen[cells[hour]];
                seen[cells[hour]] = 1;
            }
            return many;
        }
    }

    /** Changes by mend(), oldest first: those that stand, then those that were undone. */
    private static final class Changes {
        private static final int MOST = 40;

        private final int[] number = new int[MOST];
        private final int[] what = new int[MOST];
        private final int[] was = new int[MOST];
        private final int[] became = new int[MOST];
        int done;
        private int kept;

        void add(int itsNumber, int itsWhat, int itWas, int itBecame) {
            if (done >= MOST) {
                dropOldest();
            }
            number[done] = itsNumber;
            what[done] = itsWhat;
            was[done] = itWas;
            became[done] = itBecame;
            done++;
            kept = done;
        }

        private void dropOldest() {
            System.arraycopy(number, 1, number, 0, MOST - 1);
            System.arraycopy(what, 1, what, 0, MOST - 1);
            System.arraycopy(was, 1, was, 0, MOST - 1);
            System.arraycopy(became, 1, became, 0, MOST - 1);
            done = MOST - 1;
        }

        /** Undoes the latest: how many may still be undone. */
        int takeBack(Land land) {
            if (done <= 0) {
                return STATE;
            }
            done--;
            land.setNumber(number[done], what[done], was[done]);
            return done;
        }

        /** Does the latest that was undone again: how many may still be. */
        int bringBack(Land land) {
            if (done >= kept) {
                return STATE;
            }
            land.setNumber(number[done], what[done], became[done]);
            done++;
            return kept - done;
        }
    }

    /** What deeds are led by, and the image. */
    private static final class Ledger {
        static final int DAYS = 0, SLEEPS = 1, TURNS = 2, FORKED = 3, LET_OUT = 4;

        final int[] told = new int[LET_OUT + 1];
        private int keptBarns = NONE;
        private final int[] keptNight = new int[MOST_BARNS];
        private final int[] keptBlue = new int[MOST_BARNS];
        private final int[] keptTold = new int[LET_OUT + 1];

        boolean hasImage() {
            return keptBarns != NONE;
        }

        void takeImage(Land land) {
            keptBarns = land.barns;
            System.arraycopy(land.night, 0, keptNight, 0, MOST_BARNS);
            System.arraycopy(land.blue, 0, keptBlue, 0, MOST_BARNS);
            System.arraycopy(told, 0, keptTold, 0, told.length);
        }

        void layBack(Land land) {
            for (int barn = 0; barn < land.barns; barn++) {
                land.night[barn] = barn < keptBarns ? keptNight[barn] : land.night[barn];
                land.blue[barn] = barn < keptBarns ? keptBlue[barn] : 0;
            }
            System.arraycopy(keptTold, 0, told, 0, told.length);
        }
    }

    /** Bodies of kinds, and their acts. */
    private static final class Acts {
        static final int MOST = 50, KINDS = 8, ACTS = 4, TRACED = 24;
        private static final int LIES = 0, TURNS = 1, GOES = 2, TELLS = 3;
        private static final int DUST = 1, STAR = 2, COW = 3, PUMP = 4, HEN = 5, LATCH = 6, THAW = 7;
        private static final int[] ABOVE = {NONE, 0, 0, STAR, DUST, COW, 0, LATCH};
        /** The body that a kind has of its own for lies, turns, goes, tells; 0: none. */
        private static final int[] OWN = {
            1, 10, 11, 2,
            20, 0, 0, 0,
            0, 30, 0, 0,
            0, 41, 40, 0,
            0, 0, 0, 50,
            0, 0, 60, 61,
            70, 0, 0, 0,
            81, 80, 0, 0};
        /** More than any act goes down; the longest way from an act to its last body is below 10. */
        private static final int DEEPEST = 40;

        final int[] kindOf = new int[MOST];
        int bodies;
        final int[] begun = new int[TRACED];
        int ran;

        int add(int kind) {
            if (bodies >= MOST) {
                return FULL;
            }
            kindOf[bodies] = kind;
            return bodies++;
        }

        boolean hasBody(int body) {
            return isWithin(body, 0, bodies - 1);
        }

        static boolean isUnder(int kind, int upper) {
            int above = kind;
            for (int steps = 0; steps < KINDS && above != upper && above != NONE; steps++) {
                above = ABOVE[above];
            }
            return above == upper;
        }

        int start(int self, int act, int x) {
            return own(self, act, x, 0);
        }

        private int own(int self, int act, int x, int depth) {
            return hasBody(self) ? from(kindOf[self], self, act, x, depth) : 0;
        }

        private int above(int kind, int self, int act, int x, int depth) {
            return from(ABOVE[kind], self, act, x, depth);
        }

        /** Runs the body that a kind has, or the next kind above it that has one. */
        private int from(int kind, int self, int act, int x, int depth) {
            if (depth > DEEPEST) {
                return 0;
            }
            int at = kind;
            for (int steps = 0; steps < KINDS && at != NONE && OWN[at * ACTS + act] == 0; steps++) {
                at = ABOVE[at];
            }
            return at == NONE ? 0 : run(OWN[at * ACTS + act], self, x, depth + 1);
        }

        private int run(int number, int self, int x, int depth) {
            if (ran < TRACED) {
                begun[ran] = number;
            }
            ran++;
            switch (number) {
                case 1: return x + self;
                case 2: return own(self, TURNS, x, depth) - own(self, GOES, 1, depth);
                case 10: return own(self, LIES, x, depth) * 2;
                case 11: return x ^ self;
                case 20: return above(DUST, self, LIES, x, depth) + 3;
                case 30: return -above(STAR, self, TURNS, x, depth);
                case 40: return above(COW, self, GOES, x, depth) * 3;
                case 41: return above(COW, self, TURNS, x + 1, depth);
                case 50: return above(PUMP, self, TELLS, x, depth) ^ 5;
                case 60: return above(HEN, self, GOES, x, depth) - own(self, LIES, 2, depth);
                case 61: return above(HEN, self, TELLS, x, depth) + 1;
                case 70: return above(LATCH, self, LIES, x, depth) * 2;
                case 80: return above(THAW, self, TURNS, x, depth) + own(self, GOES, 2, depth);
                case 81: return above(THAW, self, LIES, x, depth) - 1;
                default: return 0;
            }
        }
    }

    /** A shelf, with the one row that it can hold at a time. */
    private static final class Shelf {
        static final int NOTHING = 0, BODY = 1, ROW = 2;
        static final int BYTES = 0, SHORTS = 1, INTS = 2, LONGS = 3, BOOLEANS = 4;
        static final int MOST = 60;

        int holds = NOTHING;
        int body = NONE;
        int sort;
        int size;
        final long[] elements = new long[MOST];

        void holdBody(int number) {
            holds = number == NONE ? NOTHING : BODY;
            body = number;
            size = 0;
        }

        void holdRow(int itsSort, int itsSize) {
            holds = ROW;
            body = NONE;
            sort = itsSort;
            size = itsSize;
            Arrays.fill(elements, 0L);
        }

        /** What stands against taking it for a row of bytes, or FINE. */
        int refusalAsBytes() {
            if (holds == NOTHING) {
                return NOTHING_THERE;
            }
            return holds == ROW && sort == BYTES ? FINE : OTHER_KIND;
        }

        /** What stands against using an element, or FINE. */
        int refusalAt(int i) {
            if (holds == NOTHING) {
                return NOTHING_THERE;
            }
            if (holds != ROW) {
                return OTHER_KIND;
            }
            return isWithin(i, 0, size - 1) ? FINE : NO_PLACE;
        }

        boolean hasPlaces(int i, int n) {
            return n >= 0 && i >= 0 && i <= size && n <= size - i;
        }

        /** An element of a row of bytes. */
        int smallAt(int i) {
            return isWithin(i, 0, size - 1) ? (int) elements[i] : 0;
        }

        /** The barn that is turned on a day; NONE behind the row's end. */
        int turnOn(int day) {
            return day < size ? smallAt(day) : NONE;
        }

        static long cut(int sort, long v) {
            switch (sort) {
                case BYTES: return (byte) v;
                case SHORTS: return (short) v;
                case INTS: return (int) v;
                case BOOLEANS: return v != 0 ? 1 : 0;
                default: return v;
            }
        }
    }
}
