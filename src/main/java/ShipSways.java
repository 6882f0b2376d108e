/** A ship that sways in waves, as DOC.md tells it: words in capitals in the comments are that document's. */
public final class ShipSways {
    public static final int NONE = -1;
    public static final int VOID = -2147483648;

    private static final int MOST_TICKS = 600;
    private static final int MOST_GONE = 100;
    private static final int MOST_TRIED = 120;
    private static final int MOST_FINS = 9;
    private static final int STEEPEST = 80;
    private static final int FASTEST = 30;
    private static final int STRONGEST = 1000;
    private static final int FARTHEST = 19;
    private static final int HIGHEST = 40;
    private static final int MOST_DIGITS = 99999;
    private static final int WORK = 0;
    private static final int FIN = 1;

    private final Hull hull;
    private final Cargo cargo;
    private final Marks marks;
    private final Waves waves;
    private final Body ship;
    private final Body trial;
    private final Diary diary;
    private final Text text;
    private final Parser parser;
    private final Route route;
    private final Tape tape;
    private final int[] names;
    private Rules active;
    private Rules spare;
    private int stiff;
    private int slow;
    private int inert;
    private int fins;

    public ShipSways() {
        hull = new Hull();
        cargo = new Cargo();
        marks = new Marks();
        waves = new Waves();
        ship = new Body();
        trial = new Body();
        diary = new Diary();
        text = new Text();
        parser = new Parser();
        route = new Route();
        tape = new Tape();
        names = new int[Rules.NAMES];
        active = new Rules();
        spare = new Rules();
        stiff = 1000;
        slow = 1;
        inert = 4;
        fins = 0;
    }

    public int slice(int length, int low, int up) {
        if (!within(length, 1, 20) || !within(low, 0, MOST_DIGITS) || !within(up, 0, MOST_DIGITS)) {
            return NONE;
        }
        return hull.addSlice(length, low, up);
    }

    public int weight(int mass, int place, int height, int mark) {
        if (!within(mass, 1, 500) || !isPoint(place, height)) {
            return NONE;
        }
        if (mark != NONE && !within(mark, 0, STEEPEST)) {
            return NONE;
        }
        int number = cargo.addWeight(mass, place, height, mark);
        if (number != NONE) {
            ship.putWeight(number, place);
            hull.carry(cargo.heavy);
        }
        return number;
    }

    public boolean lose(int weight) {
        if (!cargo.hasWeight(weight)) {
            return false;
        }
        cargo.dropWeight(weight);
        hull.carry(cargo.heavy);
        return true;
    }

    public int tank(int wide, int height, int holds) {
        if (!within(wide, 1, 9) || !within(height, 0, HIGHEST) || !within(holds, 1, 300)) {
            return NONE;
        }
        return cargo.addTank(wide, height, holds);
    }

    public boolean fill(int tank, int has) {
        if (!cargo.fillTank(tank, has)) {
            return false;
        }
        hull.carry(cargo.heavy);
        return true;
    }

    public int mark(int place, int height) {
        if (!isPoint(place, height)) {
            return NONE;
        }
        return marks.addMark(place, height);
    }

    public int at(int slope, int what) {
        if (!within(slope, -STEEPEST, STEEPEST) || !hull.floats()) {
            return VOID;
        }
        hull.settle(slope);
        switch (what) {
            case 0:
                return hull.levelAt(slope);
            case 1:
                return hull.pushAt(slope);
            case 2:
                return armAt(slope, ship.places);
            default:
                return VOID;
        }
    }

    public int rest(int k) {
        return findRest(k);
    }

    public int stays(int k) {
        int slope = findRest(k);
        if (slope == VOID) {
            return NONE;
        }
        return armAt(slope, ship.places) > 0 ? 0 : 1;
    }

    public int wave(int height, int period, int phase) {
        if (!within(height, 1, 60) || !within(period, 4, 64) || !within(phase, 0, 15)) {
            return NONE;
        }
        return waves.addWave(height, period, phase);
    }

    public int sea(int tick) {
        if (!within(tick, 0, MOST_TICKS - 1)) {
            return VOID;
        }
        return waves.pushIn(tick);
    }

    public boolean set(int what, int value) {
        if (what == 0 && within(value, 1, 1000000)) {
            stiff = value;
            return true;
        }
        if (what == 1 && within(value, 0, 50)) {
            slow = value;
            return true;
        }
        if (what == 2 && within(value, 1, 50)) {
            inert = value;
            return true;
        }
        if (what == 3 && within(value, 0, MOST_FINS)) {
            fins = value;
            return true;
        }
        return false;
    }

    public int go(int n) {
        if (!within(n, 0, MOST_GONE)) {
            return NONE;
        }
        for (int i = 0; i < n && ship.now < MOST_TICKS; i++) {
            if (ship.over) {
                // What is kept of it is 0, as the diary is from the beginning.
                ship.now++;
            } else {
                sway(ship, fins);
                diary.keep(ship.now - 1, ship, hull.floats() ? inert : 0);
            }
        }
        return ship.now;
    }

    public int kept(int tick, int what) {
        if (!within(tick, 0, ship.now - 1)) {
            return VOID;
        }
        return diary.valueOf(tick, what);
    }

    public int lead(int k) {
        if (!within(k, 0, Body.PARTS - 1)) {
            return VOID;
        }
        return ship.parts[k];
    }

    public int feed(int a, int b, int c, int d, int e) {
        if (!text.hasRoom(20)) {
            return NONE;
        }
        text.append(a);
        text.append(b);
        text.append(c);
        text.append(d);
        text.append(e);
        return text.length;
    }

    public boolean end(int n) {
        if (!within(n, 0, text.length)) {
            return false;
        }
        text.length = n;
        return true;
    }

    public int fault() {
        return parser.parse(text, spare);
    }

    public boolean rules() {
        if (parser.parse(text, spare) != NONE) {
            return false;
        }
        Rules old = active;
        active = spare;
        spare = old;
        text.length = 0;
        return true;
    }

    public int holds(int clause) {
        if (!within(clause, WORK, FIN) || ship.now >= MOST_TICKS) {
            return NONE;
        }
        return clauseHolds(clause, ship) ? 1 : 0;
    }

    public int tried(int n, int what) {
        if (!within(n, 0, MOST_TRIED) || !within(what, 0, 2)) {
            return NONE;
        }
        int greatest = tryOut(n, fins);
        if (what == 0) {
            return greatest;
        }
        return what == 1 ? trial.sick : trial.worked;
    }

    public int still(int n) {
        if (!within(n, 0, MOST_TRIED)) {
            return NONE;
        }
        int stillest = 0;
        int least = tryOut(n, 0);
        for (int out = 1; out <= MOST_FINS; out++) {
            int greatest = tryOut(n, out);
            if (greatest < least) {
                least = greatest;
                stillest = out;
            }
        }
        return stillest;
    }

    public int hour(int height, int period) {
        if (!within(height, 0, 60) || !within(period, 4, 64)) {
            return NONE;
        }
        return route.addHour(height, period);
    }

    public int begin(int own) {
        if (!within(own, 4, 64)) {
            return NONE;
        }
        return route.restart(own);
    }

    public int best(int miles, int k) {
        if (!within(miles, 0, Route.ALL_MILES)) {
            return NONE;
        }
        route.solve();
        int queasy = route.leastQueasy(miles);
        if (queasy == NONE || k == NONE) {
            return queasy;
        }
        return route.milesIn(k, miles);
    }

    public int record(int slope) {
        if (!within(slope, -STEEPEST, STEEPEST)) {
            return NONE;
        }
        return tape.addNumber(slope);
    }

    public int clear() {
        int had = tape.count;
        tape.count = 0;
        return had;
    }

    public int read(int what) {
        switch (what) {
            case 0:
                return findSeen();
            case 1:
                return tape.rises();
            case 2:
                return tape.squares();
            case 3:
                return tape.greatest();
            default:
                return VOID;
        }
    }

    public int goes(int wave) {
        if (!within(wave, 0, waves.count - 1)) {
            return VOID;
        }
        return waves.along(wave, tape);
    }

    public int check(int tick, int number, int mask) {
        if (!within(tick, 0, ship.now - 1) || !within(number, 0, 2)) {
            return NONE;
        }
        return diary.verdict(tick, number, mask);
    }

    public int count(int what) {
        switch (what) {
            case 0:
                return ship.now;
            case 1:
                return hull.slices;
            case 2:
                return cargo.weights;
            case 3:
                return cargo.tanks;
            case 4:
                return waves.count;
            case 5:
                return marks.count;
            case 6:
                return text.length;
            case 7:
                return ship.sick;
            case 8:
                return ship.worked;
            case 9:
                return ship.over ? 1 : 0;
            case 10:
                return route.hours;
            case 11:
                return tape.count;
            case 12:
                return cargo.heavy;
            default:
                return NONE;
        }
    }

    public int place(int weight) {
        if (!cargo.hasWeight(weight)) {
            return VOID;
        }
        return ship.places[weight];
    }

    public int wetted(int mark) {
        if (!within(mark, 0, marks.count - 1)) {
            return NONE;
        }
        return ship.wetted[mark];
    }

    private static boolean within(int value, int least, int most) {
        return value >= least && value <= most;
    }

    private static boolean isPoint(int place, int height) {
        return within(place, -FARTHEST, FARTHEST) && within(height, 0, HIGHEST);
    }

    private static int bring(long value, int most) {
        if (value > most) {
            return most;
        }
        return value < -most ? -most : (int) value;
    }

    private static int cut(int value, int divisor) {
        return divisor == 0 ? 0 : value / divisor;
    }

    /** hull.settle(slope) comes ahead of it. */
    private int armAt(int slope, int[] places) {
        int push = hull.pushAt(slope);
        if (push == 0) {
            return 0;
        }
        long lift = Math.floorDiv((long) hull.momentAt(slope) * cargo.heavy, (long) push);
        return (int) (lift - cargo.momentAt(slope, places));
    }

    /** The s of the k-th REST, or VOID. */
    private int findRest(int k) {
        if (k < 0 || !hull.floats()) {
            return VOID;
        }
        int left = k;
        hull.settle(-STEEPEST);
        boolean above = armAt(-STEEPEST, ship.places) > 0;
        for (int slope = -STEEPEST; slope < STEEPEST; slope++) {
            hull.settle(slope + 1);
            boolean aboveNext = armAt(slope + 1, ship.places) > 0;
            if (above != aboveNext) {
                if (left == 0) {
                    return slope;
                }
                left--;
            }
            above = aboveNext;
        }
        return VOID;
    }

    private int findSeen() {
        if (tape.count == 0) {
            return NONE;
        }
        int seen = NONE;
        int most = NONE;
        for (int wave = 0; wave < waves.count; wave++) {
            int by = Math.abs(waves.along(wave, tape));
            if (by > most) {
                most = by;
                seen = wave;
            }
        }
        return seen;
    }

    /** The greatest SLOPE, either way, of n TICKS that only the trial body lives through. */
    private int tryOut(int n, int out) {
        trial.copyFrom(ship);
        int greatest = Math.abs(trial.slope);
        // A body that is OVER doesn't change any more, so its later TICKS needn't go.
        for (int i = 0; i < n && trial.now < MOST_TICKS && !trial.over; i++) {
            sway(trial, out);
            greatest = Math.max(greatest, Math.abs(trial.slope));
        }
        return greatest;
    }

    /** One TICK of a body that isn't OVER. */
    private void sway(Body body, int out) {
        body.force = 0;
        cargo.slide(body.slope, body.places);
        if (hull.floats()) {
            hull.settle(body.slope);
            pushOn(body, out);
            body.turn(inert);
            body.sicken();
            if (clauseHolds(WORK, body)) {
                body.worked++;
            }
            hull.settle(body.slope);
            body.wash(marks, hull.levelAt(body.slope));
        } else {
            body.over = true;
        }
        body.now++;
    }

    private void pushOn(Body body, int out) {
        int[] parts = body.parts;
        parts[0] = -cut(armAt(body.slope, body.places), stiff);
        parts[1] = waves.pushIn(body.now);
        parts[2] = -cut(body.speed * slow, 10);
        parts[3] = clauseHolds(FIN, body) ? -cut(body.speed * out, 4) : 0;
        body.force = bring((long) parts[0] + parts[1] + parts[2] + parts[3], STRONGEST);
    }

    private boolean clauseHolds(int clause, Body body) {
        if (!active.has(clause)) {
            return true;
        }
        names[0] = body.slope;
        names[1] = body.speed;
        names[2] = body.now;
        names[3] = body.sick;
        names[4] = waves.pushIn(body.now);
        names[5] = Integer.bitCount(body.wet);
        names[6] = cargo.countMoved(body.places);
        return active.isTrue(clause, names);
    }

    /** The BOXES of all SLICES together, and how deep they lie at each SLOPE. */
    private static final class Hull {
        static final int MOST_SLICES = 6;
        static final int HEIGHTS = 10;
        static final int LOW_HEIGHTS = 5;
        static final int HALF_COLUMNS = 9;
        // A row has its 18 columns, and an end where no BOX is left.
        static final int ROW = 19;
        static final int LOWEST_LEVEL = -2000;
        static final int HIGHEST_LEVEL = 4000;
        // 2 to the 13th is more than there are LEVELS.
        static final int HALVINGS = 13;

        // For each height and column: LENGTH of the BOXES in this column and beyond it, so that
        // one look tells how much of a row is WET; and LENGTH times place of them likewise.
        final int[] lengths = new int[HEIGHTS * ROW];
        final int[] levers = new int[HEIGHTS * ROW];
        // By SLOPES of 0 and above alone: the hull is the same to both sides.
        final int[] levels = new int[STEEPEST + 1];
        final int[] pushes = new int[STEEPEST + 1];
        final int[] moments = new int[STEEPEST + 1];
        final int[] settled = new int[STEEPEST + 1];
        int version = 1;
        int slices = 0;
        int whole = 0;
        int heavy = 0;

        int addSlice(int length, int low, int up) {
            if (slices >= MOST_SLICES) {
                return NONE;
            }
            int lowDigits = low;
            int upDigits = up;
            for (int z = LOW_HEIGHTS - 1; z >= 0; z--) {
                addRow(z, length, lowDigits % 10);
                addRow(z + LOW_HEIGHTS, length, upDigits % 10);
                lowDigits /= 10;
                upDigits /= 10;
            }
            version++;
            return slices++;
        }

        void addRow(int z, int length, int half) {
            if (z < 0 || z >= HEIGHTS || half < 0 || half > HALF_COLUMNS) {
                return;
            }
            int columnLength = 0;
            int columnLever = 0;
            for (int column = ROW - 1; column >= 0; column--) {
                int x = column - HALF_COLUMNS;
                if (x >= -half && x < half) {
                    columnLength += length;
                    columnLever += length * (2 * x + 1);
                }
                lengths[z * ROW + column] += columnLength;
                levers[z * ROW + column] += columnLever;
            }
            whole += columnLength;
        }

        void carry(int mass) {
            if (mass != heavy) {
                heavy = mass;
                version++;
            }
        }

        // At the highest LEVEL every BOX is WET at any SLOPE, at the lowest none is.
        boolean floats() {
            return heavy > 0 && heavy <= whole;
        }

        /** Finds LEVEL, PUSH and moment at a SLOPE, unless they are known; wants floats(). */
        void settle(int slope) {
            int steep = Math.abs(slope);
            if (steep < 0 || steep > STEEPEST || settled[steep] == version) {
                return;
            }
            int least = LOWEST_LEVEL;
            int most = HIGHEST_LEVEL;
            for (int i = 0; i < HALVINGS && least < most; i++) {
                int middle = Math.floorDiv(least + most, 2);
                if (pushIn(steep, middle) >= heavy) {
                    most = middle;
                } else {
                    least = middle + 1;
                }
            }
            levels[steep] = most;
            weighAt(steep, most);
            settled[steep] = version;
        }

        int pushIn(int steep, int level) {
            int push = 0;
            for (int z = 0; z < HEIGHTS; z++) {
                push += lengths[z * ROW + firstWet(z, steep, level)];
            }
            return push;
        }

        void weighAt(int steep, int level) {
            int push = 0;
            int moment = 0;
            for (int z = 0; z < HEIGHTS; z++) {
                int first = z * ROW + firstWet(z, steep, level);
                push += lengths[first];
                moment += 100 * levers[first] + steep * (2 * z + 1) * lengths[first];
            }
            pushes[steep] = push;
            moments[steep] = moment;
        }

        /** The first column whose BOX is WET; at a SLOPE of 0 or above all behind it are WET too. */
        static int firstWet(int z, int steep, int level) {
            int lacks = 100 * (2 * z + 1) - level;
            if (steep <= 0) {
                return lacks > 0 ? ROW - 1 : 0;
            }
            int place = -Math.floorDiv(-lacks, steep);
            int column = Math.floorDiv(place, 2) + HALF_COLUMNS;
            return Math.max(0, Math.min(ROW - 1, column));
        }

        int levelAt(int slope) {
            int steep = Math.abs(slope);
            return steep < 0 || steep > STEEPEST ? 0 : levels[steep];
        }

        int pushAt(int slope) {
            int steep = Math.abs(slope);
            return steep < 0 || steep > STEEPEST ? 0 : pushes[steep];
        }

        int momentAt(int slope) {
            int steep = Math.abs(slope);
            if (steep < 0 || steep > STEEPEST) {
                return 0;
            }
            return slope < 0 ? -moments[steep] : moments[steep];
        }
    }

    /** WEIGHTS and TANKS as they were told; where WEIGHTS are by now stands in a Body. */
    private static final class Cargo {
        static final int MOST_WEIGHTS = 12;
        static final int MOST_TANKS = 4;

        // A WEIGHT that was taken away has the MASS 0.
        final int[] masses = new int[MOST_WEIGHTS];
        final int[] toldPlaces = new int[MOST_WEIGHTS];
        final int[] heights = new int[MOST_WEIGHTS];
        final int[] slips = new int[MOST_WEIGHTS];
        final int[] wides = new int[MOST_TANKS];
        final int[] tankHeights = new int[MOST_TANKS];
        final int[] mosts = new int[MOST_TANKS];
        final int[] waters = new int[MOST_TANKS];
        int weights = 0;
        int tanks = 0;
        int heavy = 0;

        int addWeight(int mass, int place, int height, int slip) {
            if (weights >= MOST_WEIGHTS) {
                return NONE;
            }
            masses[weights] = mass;
            toldPlaces[weights] = place;
            heights[weights] = height;
            slips[weights] = slip;
            heavy += mass;
            return weights++;
        }

        boolean hasWeight(int weight) {
            return weight >= 0 && weight < weights && masses[weight] > 0;
        }

        void dropWeight(int weight) {
            if (hasWeight(weight)) {
                heavy -= masses[weight];
                masses[weight] = 0;
            }
        }

        int addTank(int wide, int height, int most) {
            if (tanks >= MOST_TANKS) {
                return NONE;
            }
            wides[tanks] = wide;
            tankHeights[tanks] = height;
            mosts[tanks] = most;
            return tanks++;
        }

        boolean fillTank(int tank, int water) {
            if (tank < 0 || tank >= tanks || water < 0 || water > mosts[tank]) {
                return false;
            }
            heavy += water - waters[tank];
            waters[tank] = water;
            return true;
        }

        void slide(int slope, int[] places) {
            for (int i = 0; i < weights && i < places.length; i++) {
                if (masses[i] > 0 && slips[i] != NONE) {
                    if (slope > slips[i] && places[i] < FARTHEST) {
                        places[i]++;
                    } else if (slope < -slips[i] && places[i] > -FARTHEST) {
                        places[i]--;
                    }
                }
            }
        }

        int countMoved(int[] places) {
            int moved = 0;
            for (int i = 0; i < weights && i < places.length; i++) {
                if (masses[i] > 0 && places[i] != toldPlaces[i]) {
                    moved++;
                }
            }
            return moved;
        }

        int momentAt(int slope, int[] places) {
            int moment = 0;
            for (int i = 0; i < weights && i < places.length; i++) {
                moment += masses[i] * (100 * places[i] + slope * heights[i]);
            }
            for (int i = 0; i < tanks; i++) {
                boolean runs = waters[i] > 0 && waters[i] < mosts[i];
                int place = runs ? slope * wides[i] / 100 : 0;
                moment += waters[i] * (100 * place + slope * tankHeights[i]);
            }
            return moment;
        }
    }

    private static final class Marks {
        static final int MOST_MARKS = 6;

        final int[] places = new int[MOST_MARKS];
        final int[] heights = new int[MOST_MARKS];
        int count = 0;

        int addMark(int place, int height) {
            if (count >= MOST_MARKS) {
                return NONE;
            }
            places[count] = place;
            heights[count] = height;
            return count++;
        }

        boolean isWet(int mark, int slope, int level) {
            return mark >= 0 && mark < count && 100 * heights[mark] <= level + slope * places[mark];
        }
    }

    private static final class Waves {
        static final int MOST_WAVES = 8;
        static final int[] SINES = {
            0, 383, 707, 924, 1000, 924, 707, 383, 0, -383, -707, -924, -1000, -924, -707, -383
        };

        final int[] periods = new int[MOST_WAVES];
        final int[] phases = new int[MOST_WAVES];
        // THE SEA's push in each TICK, so that TICKS that are tried again and again find it ready.
        final int[] pushes = new int[MOST_TICKS];
        int count = 0;

        int addWave(int height, int period, int phase) {
            if (count >= MOST_WAVES) {
                return NONE;
            }
            for (int tick = 0; tick < MOST_TICKS; tick++) {
                pushes[tick] += height * sineOf(period, phase, tick) / 1000;
            }
            periods[count] = period;
            phases[count] = phase;
            return count++;
        }

        static int sineOf(int period, int phase, int tick) {
            return period < 1 ? 0 : SINES[(tick * 16 / period + phase) & 15];
        }

        int pushIn(int tick) {
            return tick < 0 || tick >= MOST_TICKS ? 0 : pushes[tick];
        }

        int along(int wave, Tape tape) {
            if (wave < 0 || wave >= count) {
                return 0;
            }
            int sum = 0;
            for (int i = 0; i < tape.count; i++) {
                sum += tape.numbers[i] * sineOf(periods[wave], phases[wave], i);
            }
            return sum;
        }
    }

    /** All that changes as TICKS go: the ship has one, and another is for what is only tried. */
    private static final class Body {
        static final int PARTS = 4;
        static final int QUICK = 4;

        final int[] places = new int[Cargo.MOST_WEIGHTS];
        final int[] wetted = new int[Marks.MOST_MARKS];
        final int[] parts = new int[PARTS];
        int now = 0;
        int slope = 0;
        int speed = 0;
        int force = 0;
        int sick = 0;
        int worked = 0;
        // A bit for each MARK.
        int wet = 0;
        boolean over = false;

        // WETTED and the parts of FORCE are left out: nothing that is tried depends on them.
        void copyFrom(Body other) {
            System.arraycopy(other.places, 0, places, 0, Cargo.MOST_WEIGHTS);
            now = other.now;
            slope = other.slope;
            speed = other.speed;
            force = other.force;
            sick = other.sick;
            worked = other.worked;
            wet = other.wet;
            over = other.over;
        }

        void putWeight(int weight, int place) {
            if (weight >= 0 && weight < places.length) {
                places[weight] = place;
            }
        }

        void turn(int inert) {
            speed = nextSpeed(speed, force, inert);
            int next = slope + speed;
            slope = bring(next, STEEPEST);
            over = next != slope;
        }

        static int nextSpeed(int speed, int force, int inert) {
            return inert < 1 ? speed : bring((long) speed + force / inert, FASTEST);
        }

        void sicken() {
            sick += Math.max(0, Math.abs(speed) - QUICK);
        }

        void wash(Marks marks, int level) {
            int wetNow = 0;
            for (int mark = 0; mark < marks.count && mark < wetted.length; mark++) {
                if (marks.isWet(mark, slope, level)) {
                    int bit = 1 << mark;
                    wetNow |= bit;
                    if ((wet & bit) == 0) {
                        wetted[mark]++;
                    }
                }
            }
            wet = wetNow;
        }
    }

    /** What is kept of TICKS that went. */
    private static final class Diary {
        final int[] slopes = new int[MOST_TICKS];
        final int[] speeds = new int[MOST_TICKS];
        final int[] forces = new int[MOST_TICKS];
        // 0 for a TICK that can't be CHECKED.
        final int[] inerts = new int[MOST_TICKS];

        void keep(int tick, Body body, int inert) {
            if (tick < 0 || tick >= MOST_TICKS) {
                return;
            }
            slopes[tick] = body.slope;
            speeds[tick] = body.speed;
            forces[tick] = body.force;
            inerts[tick] = inert;
        }

        int valueOf(int tick, int what) {
            if (tick < 0 || tick >= MOST_TICKS) {
                return VOID;
            }
            switch (what) {
                case 0:
                    return slopes[tick];
                case 1:
                    return speeds[tick];
                case 2:
                    return forces[tick];
                default:
                    return VOID;
            }
        }

        int verdict(int tick, int number, int mask) {
            if (tick < 0 || tick >= MOST_TICKS || inerts[tick] == 0) {
                return NONE;
            }
            int slope = slopes[tick] ^ (number == 0 ? mask : 0);
            int speed = speeds[tick] ^ (number == 1 ? mask : 0);
            int force = forces[tick] ^ (number == 2 ? mask : 0);
            int slopeAhead = tick == 0 ? 0 : slopes[tick - 1];
            int speedAhead = tick == 0 ? 0 : speeds[tick - 1];
            if (speed != Body.nextSpeed(speedAhead, force, inerts[tick])) {
                return 1;
            }
            return slope == bring((long) slopeAhead + speed, STEEPEST) ? 0 : 2;
        }
    }

    private static final class Text {
        static final int MOST_BYTES = 300;

        final int[] bytes = new int[MOST_BYTES];
        int length = 0;

        boolean hasRoom(int more) {
            return length + more <= MOST_BYTES;
        }

        void append(int four) {
            for (int shift = 24; shift >= 0 && length < MOST_BYTES; shift -= 8) {
                bytes[length] = (four >>> shift) & 255;
                length++;
            }
        }

        int byteAt(int place) {
            return place < 0 || place >= length ? NONE : bytes[place];
        }

        boolean spells(String word, int from, int to) {
            if (to - from != word.length()) {
                return false;
            }
            for (int i = 0; i < word.length(); i++) {
                if (byteAt(from + i) != word.charAt(i)) {
                    return false;
                }
            }
            return true;
        }
    }

    /** CLAUSES as code for a stack: operands first, then what joins them. */
    private static final class Rules {
        static final int CLAUSES = 2;
        static final int NAMES = 7;
        static final int BIGGEST = 1000000;
        // Codes below FIRST_NAME are numbers.
        static final int FIRST_NAME = 10000;
        static final int OR = 10010;
        static final int AND = 10011;
        static final int NOT = 10012;
        static final int LESS = 10013;
        static final int MORE = 10014;
        static final int SAME = 10015;
        static final int PLUS = 10016;
        static final int MINUS = 10017;
        static final int TIMES = 10018;
        static final int BY = 10019;

        // A TOKEN makes one code at most.
        final int[] codes = new int[Text.MOST_BYTES];
        // Two operands can wait a level for + and * or for or and and, and one for what compares:
        // with 8 levels inside the first, 22 at most.
        final int[] stack = new int[32];
        final int[] from = new int[CLAUSES];
        final int[] to = new int[CLAUSES];
        int size = 0;

        void reset() {
            size = 0;
            for (int clause = 0; clause < CLAUSES; clause++) {
                from[clause] = 0;
                to[clause] = 0;
            }
        }

        void open(int clause) {
            if (clause >= 0 && clause < CLAUSES) {
                from[clause] = size;
            }
        }

        void close(int clause) {
            if (clause >= 0 && clause < CLAUSES) {
                to[clause] = size;
            }
        }

        void emit(int code) {
            if (size < codes.length) {
                codes[size] = code;
                size++;
            }
        }

        boolean has(int clause) {
            return clause >= 0 && clause < CLAUSES && to[clause] > from[clause];
        }

        boolean isTrue(int clause, int[] names) {
            if (!has(clause)) {
                return true;
            }
            int top = 0;
            for (int i = from[clause]; i < to[clause] && i < codes.length; i++) {
                int code = codes[i];
                if (code < OR && top < stack.length) {
                    int name = code - FIRST_NAME;
                    stack[top] = name >= 0 && name < names.length ? names[name] : code;
                    top++;
                } else if (code == NOT && top >= 1) {
                    stack[top - 1] = 1 - stack[top - 1];
                } else if (top >= 2) {
                    stack[top - 2] = bring(join(code, stack[top - 2], stack[top - 1]), BIGGEST);
                    top--;
                }
            }
            return top > 0 && stack[top - 1] == 1;
        }

        static long join(int code, int left, int right) {
            switch (code) {
                case OR:
                    return left | right;
                case AND:
                    return left & right;
                case LESS:
                    return left < right ? 1 : 0;
                case MORE:
                    return left > right ? 1 : 0;
                case SAME:
                    return left == right ? 1 : 0;
                case PLUS:
                    return (long) left + right;
                case MINUS:
                    return (long) left - right;
                case TIMES:
                    return (long) left * right;
                case BY:
                    return right == 0 ? 0 : left / right;
                default:
                    return 0;
            }
        }
    }

    /** Reads a TEXT token by token into codes; what is still open waits on a stack. */
    private static final class Parser {
        static final int OPEN = 10020;
        static final int CLOSE = 10021;
        static final int OPEN_C = 10022;
        static final int CLOSE_C = 10023;
        static final int STOP = 10024;
        static final int WORK_WORD = 10025;
        static final int FIN_WORD = 10026;
        static final int END = 10027;
        static final int BAD = 10028;
        static final int MOST_NUMBER = 9999;
        static final int DEEPEST = 8;
        // What may come next: a CLAUSE, a B, an F, what goes on behind an F, or behind a ].
        static final int BEFORE_CLAUSE = 0;
        static final int BEFORE_B = 1;
        static final int BEFORE_F = 2;
        static final int BEHIND_F = 3;
        static final int BEHIND_B = 4;

        // Three wait a level at most: what opened it, and two that join: 29 in all.
        final int[] waiting = new int[32];
        int waits = 0;
        int next = 0;
        int first = 0;
        int state = BEFORE_CLAUSE;
        int clause = 0;
        int depth = 0;
        int parens = 0;
        int brackets = 0;
        boolean compared = false;

        /** The FAULT; without one the rules are what the TEXT says. */
        int parse(Text text, Rules rules) {
            rules.reset();
            waits = 0;
            next = 0;
            state = BEFORE_CLAUSE;
            depth = 0;
            // Each TOKEN takes a byte at least, so the end is reached in these turns.
            for (int i = 0; i <= Text.MOST_BYTES; i++) {
                int token = nextToken(text);
                if (token == END) {
                    return state == BEFORE_CLAUSE ? NONE : text.length;
                }
                if (!take(token, rules)) {
                    return first;
                }
            }
            return text.length;
        }

        int nextToken(Text text) {
            while (next < text.length && text.byteAt(next) == ' ') {
                next++;
            }
            first = next;
            int sign = text.byteAt(first);
            if (sign == NONE) {
                return END;
            }
            if (isLetter(sign)) {
                return word(text);
            }
            if (isDigit(sign)) {
                return number(text);
            }
            next++;
            return signToken(sign);
        }

        static boolean isLetter(int sign) {
            return sign >= 'a' && sign <= 'z';
        }

        static boolean isDigit(int sign) {
            return sign >= '0' && sign <= '9';
        }

        int word(Text text) {
            while (next < text.length && isLetter(text.byteAt(next))) {
                next++;
            }
            if (text.spells("work", first, next)) {
                return WORK_WORD;
            }
            if (text.spells("fin", first, next)) {
                return FIN_WORD;
            }
            if (text.spells("or", first, next)) {
                return Rules.OR;
            }
            if (text.spells("and", first, next)) {
                return Rules.AND;
            }
            if (text.spells("not", first, next)) {
                return Rules.NOT;
            }
            return name(text);
        }

        int name(Text text) {
            if (text.spells("slope", first, next)) {
                return Rules.FIRST_NAME;
            }
            if (text.spells("speed", first, next)) {
                return Rules.FIRST_NAME + 1;
            }
            if (text.spells("tick", first, next)) {
                return Rules.FIRST_NAME + 2;
            }
            if (text.spells("sick", first, next)) {
                return Rules.FIRST_NAME + 3;
            }
            if (text.spells("sea", first, next)) {
                return Rules.FIRST_NAME + 4;
            }
            if (text.spells("wet", first, next)) {
                return Rules.FIRST_NAME + 5;
            }
            return text.spells("moved", first, next) ? Rules.FIRST_NAME + 6 : BAD;
        }

        int number(Text text) {
            int value = 0;
            while (next < text.length && isDigit(text.byteAt(next))) {
                // Held just above the limit: 300 digits would wrap around.
                value = Math.min(MOST_NUMBER + 1, value * 10 + text.byteAt(next) - '0');
                next++;
            }
            return value > MOST_NUMBER ? BAD : value;
        }

        static int signToken(int sign) {
            switch (sign) {
                case '+':
                    return Rules.PLUS;
                case '-':
                    return Rules.MINUS;
                case '*':
                    return Rules.TIMES;
                case '/':
                    return Rules.BY;
                case '(':
                    return OPEN;
                case ')':
                    return CLOSE;
                case '[':
                    return OPEN_C;
                case ']':
                    return CLOSE_C;
                case '<':
                    return Rules.LESS;
                case '>':
                    return Rules.MORE;
                case '=':
                    return Rules.SAME;
                case ';':
                    return STOP;
                default:
                    return BAD;
            }
        }

        /** False if the TOKEN can't stand here. */
        boolean take(int token, Rules rules) {
            switch (state) {
                case BEFORE_CLAUSE:
                    return takeClause(token, rules);
                case BEFORE_B:
                    if (token == Rules.NOT || token == OPEN_C) {
                        brackets += token == OPEN_C ? 1 : 0;
                        return goDeeper(token);
                    }
                    return takeOperand(token, rules);
                case BEFORE_F:
                    return takeOperand(token, rules);
                case BEHIND_F:
                    return takeBehindOperand(token, rules);
                default:
                    return takeJoin(token, rules);
            }
        }

        boolean takeClause(int token, Rules rules) {
            if (token != WORK_WORD && token != FIN_WORD) {
                return false;
            }
            clause = token == WORK_WORD ? WORK : FIN;
            if (rules.has(clause)) {
                return false;
            }
            rules.open(clause);
            parens = 0;
            brackets = 0;
            compared = false;
            state = BEFORE_B;
            return true;
        }

        boolean takeOperand(int token, Rules rules) {
            if (token == OPEN) {
                parens++;
                state = BEFORE_F;
                return goDeeper(token);
            }
            if (token < 0 || token >= Rules.OR) {
                return false;
            }
            rules.emit(token);
            state = BEHIND_F;
            return true;
        }

        boolean takeBehindOperand(int token, Rules rules) {
            if (token == Rules.PLUS || token == Rules.MINUS || token == Rules.TIMES || token == Rules.BY) {
                takeOperator(token, rules);
                return true;
            }
            if (parens > 0) {
                if (token != CLOSE) {
                    return false;
                }
                parens--;
                release(1, rules);
                dropOpener();
                return true;
            }
            if (compared) {
                return takeJoin(token, rules);
            }
            if (token != Rules.LESS && token != Rules.MORE && token != Rules.SAME) {
                return false;
            }
            compared = true;
            takeOperator(token, rules);
            return true;
        }

        void takeOperator(int token, Rules rules) {
            release(bindingOf(token), rules);
            await(token);
            state = BEFORE_F;
        }

        /** What may stand behind a whole B. */
        boolean takeJoin(int token, Rules rules) {
            if (token == Rules.AND || token == Rules.OR) {
                release(bindingOf(token), rules);
                await(token);
                compared = false;
                state = BEFORE_B;
                return true;
            }
            if (token == CLOSE_C && brackets > 0) {
                brackets--;
                release(1, rules);
                dropOpener();
                state = BEHIND_B;
                return true;
            }
            if (token == STOP && brackets == 0) {
                release(1, rules);
                rules.close(clause);
                state = BEFORE_CLAUSE;
                return true;
            }
            return false;
        }

        boolean goDeeper(int token) {
            if (depth >= DEEPEST) {
                return false;
            }
            depth++;
            await(token);
            return true;
        }

        void dropOpener() {
            if (waits > 0) {
                waits--;
                depth--;
            }
        }

        void await(int token) {
            if (waits < waiting.length) {
                waiting[waits] = token;
                waits++;
            }
        }

        /** Emits what waits and binds so tightly at least; a ( or [ holds back all below it. */
        void release(int binding, Rules rules) {
            while (waits > 0 && waits <= waiting.length && bindingOf(waiting[waits - 1]) >= binding) {
                waits--;
                if (waiting[waits] == Rules.NOT) {
                    depth--;
                }
                rules.emit(waiting[waits]);
            }
        }

        static int bindingOf(int token) {
            switch (token) {
                case Rules.OR:
                    return 1;
                case Rules.AND:
                    return 2;
                case Rules.NOT:
                    return 3;
                case Rules.LESS:
                case Rules.MORE:
                case Rules.SAME:
                    return 4;
                case Rules.PLUS:
                case Rules.MINUS:
                    return 5;
                case Rules.TIMES:
                case Rules.BY:
                    return 6;
                default:
                    return 0;
            }
        }
    }

    /** The HOURS of a way and the BEST MILES in them. */
    private static final class Route {
        static final int MOST_HOURS = 12;
        static final int CHOICES = 4;
        static final int ALL_MILES = 36;
        static final int ROW = 37;
        // Far above any sum of QUEASY, and twice it is still an int.
        static final int NO_WAY = 100000000;

        final int[] queasy = new int[MOST_HOURS * CHOICES];
        // By hour and MILES still to go: the least QUEASY from that HOUR on.
        final int[] least = new int[(MOST_HOURS + 1) * ROW];
        int hours = 0;
        int own = 16;
        boolean solved = false;

        int addHour(int height, int period) {
            if (hours >= MOST_HOURS) {
                return NONE;
            }
            for (int miles = 0; miles < CHOICES; miles++) {
                int differ = period - miles - own;
                queasy[hours * CHOICES + miles] = cut(height * 64, 1 + differ * differ);
            }
            solved = false;
            hours++;
            return hours;
        }

        int restart(int ownPeriod) {
            int had = hours;
            hours = 0;
            own = ownPeriod;
            solved = false;
            return had;
        }

        void solve() {
            if (solved) {
                return;
            }
            for (int miles = 0; miles < ROW; miles++) {
                least[hours * ROW + miles] = miles == 0 ? 0 : NO_WAY;
            }
            for (int hour = hours - 1; hour >= 0; hour--) {
                for (int miles = 0; miles < ROW; miles++) {
                    int best = NO_WAY;
                    for (int choice = 0; choice < CHOICES; choice++) {
                        best = Math.min(best, queasyBy(hour, miles, choice));
                    }
                    least[hour * ROW + miles] = best;
                }
            }
            solved = true;
        }

        int queasyBy(int hour, int miles, int choice) {
            int left = Math.max(0, miles - choice);
            return queasy[hour * CHOICES + choice] + least[(hour + 1) * ROW + left];
        }

        int leastQueasy(int miles) {
            if (miles < 0 || miles >= ROW || least[miles] >= NO_WAY) {
                return NONE;
            }
            return least[miles];
        }

        int milesIn(int hour, int miles) {
            if (hour < 0 || hour >= hours || miles < 0 || miles >= ROW) {
                return NONE;
            }
            int left = miles;
            int chosen = 0;
            for (int i = 0; i <= hour; i++) {
                chosen = 0;
                while (chosen < CHOICES - 1 && queasyBy(i, left, chosen) != least[i * ROW + left]) {
                    chosen++;
                }
                left = Math.max(0, left - chosen);
            }
            return chosen;
        }
    }

    /** The RECORD. */
    private static final class Tape {
        static final int MOST_NUMBERS = 64;

        final int[] numbers = new int[MOST_NUMBERS];
        int count = 0;

        int addNumber(int number) {
            if (count >= MOST_NUMBERS) {
                return NONE;
            }
            numbers[count] = number;
            count++;
            return count;
        }

        int rises() {
            int rises = 0;
            for (int i = 1; i < count; i++) {
                if (numbers[i] >= 0 && numbers[i - 1] < 0) {
                    rises++;
                }
            }
            return rises;
        }

        int squares() {
            int sum = 0;
            for (int i = 0; i < count; i++) {
                sum += numbers[i] * numbers[i];
            }
            return sum;
        }

        int greatest() {
            int most = 0;
            for (int i = 0; i < count; i++) {
                most = Math.max(most, Math.abs(numbers[i]));
            }
            return most;
        }
    }
}
