import java.util.ArrayList;
import java.util.Arrays;
import java.util.HashMap;
import java.util.List;
import java.util.Map;

/**
 * The document once more, in the plainest way: every BOX looked at for every LEVEL, texts read by descent,
 * ways and ticks tried one by one on copies. Slow, and written apart from the class that it is held against.
 */
final class Plain {
    static final int NONE = -1;
    static final int VOID = Integer.MIN_VALUE;
    static final int[] SINES = {0, 383, 707, 924, 1000, 924, 707, 383, 0, -383, -707, -924, -1000, -924, -707, -383};

    static final class Weight {
        int mass;
        int told;
        int place;
        int height;
        int mark;
        boolean gone;
    }

    List<int[]> slices = new ArrayList<>();
    List<Weight> weights = new ArrayList<>();
    List<int[]> tanks = new ArrayList<>();
    List<int[]> marks = new ArrayList<>();
    List<int[]> waves = new ArrayList<>();
    List<int[]> kept = new ArrayList<>();
    List<int[]> hours = new ArrayList<>();
    List<Integer> numbers = new ArrayList<>();
    Map<Long, Integer> levels = new HashMap<>();
    StringBuilder text = new StringBuilder();
    String rules = "";
    int[] settings = {1000, 1, 4, 0};
    int[] lead = new int[4];
    int own = 16;
    int now;
    int slope;
    int speed;
    int sick;
    int worked;
    boolean over;

    Plain copy() {
        Plain c = new Plain();
        c.slices = slices;
        c.tanks = tanks;
        c.levels = levels;
        c.waves = waves;
        c.rules = rules;
        c.settings = settings.clone();
        for (Weight w : weights) {
            Weight v = new Weight();
            v.mass = w.mass;
            v.told = w.told;
            v.place = w.place;
            v.height = w.height;
            v.mark = w.mark;
            v.gone = w.gone;
            c.weights.add(v);
        }
        for (int[] m : marks) {
            c.marks.add(m.clone());
        }
        c.now = now;
        c.slope = slope;
        c.speed = speed;
        c.sick = sick;
        c.worked = worked;
        c.over = over;
        return c;
    }

    static boolean in(int v, int a, int b) {
        return a <= v && v <= b;
    }

    int slice(int length, int low, int up) {
        if (!in(length, 1, 20) || !in(low, 0, 99999) || !in(up, 0, 99999) || slices.size() == 6) {
            return NONE;
        }
        String digits = String.format("%05d%05d", low, up);
        int[] row = new int[11];
        row[0] = length;
        for (int z = 0; z < 10; z++) {
            row[z + 1] = digits.charAt(z) - '0';
        }
        slices.add(row);
        return slices.size() - 1;
    }

    int weight(int mass, int place, int height, int mark) {
        if (!in(mass, 1, 500) || !in(place, -19, 19) || !in(height, 0, 40) || !in(mark, -1, 80) || weights.size() == 12) {
            return NONE;
        }
        Weight w = new Weight();
        w.mass = mass;
        w.told = place;
        w.place = place;
        w.height = height;
        w.mark = mark;
        weights.add(w);
        return weights.size() - 1;
    }

    boolean lose(int n) {
        if (!in(n, 0, weights.size() - 1) || weights.get(n).gone) {
            return false;
        }
        weights.get(n).gone = true;
        return true;
    }

    int tank(int wide, int height, int holds) {
        if (!in(wide, 1, 9) || !in(height, 0, 40) || !in(holds, 1, 300) || tanks.size() == 4) {
            return NONE;
        }
        tanks.add(new int[] {wide, height, holds, 0});
        return tanks.size() - 1;
    }

    boolean fill(int n, int has) {
        if (!in(n, 0, tanks.size() - 1) || !in(has, 0, tanks.get(n)[2])) {
            return false;
        }
        tanks.get(n)[3] = has;
        return true;
    }

    int mark(int place, int height) {
        if (!in(place, -19, 19) || !in(height, 0, 40) || marks.size() == 6) {
            return NONE;
        }
        marks.add(new int[] {place, height, 0, 0});
        return marks.size() - 1;
    }

    int heavy() {
        int sum = 0;
        for (Weight w : weights) {
            sum += w.gone ? 0 : w.mass;
        }
        for (int[] t : tanks) {
            sum += t[3];
        }
        return sum;
    }

    static boolean wet(int s, int level, int place, int height) {
        return 100 * height <= level + s * place;
    }

    long[] under(int s, int level) {
        long push = 0;
        long moment = 0;
        for (int[] row : slices) {
            for (int z = 0; z < 10; z++) {
                for (int x = -row[z + 1]; x <= row[z + 1] - 1; x++) {
                    if (wet(s, level, 2 * x + 1, 2 * z + 1)) {
                        push += row[0];
                        moment += row[0] * (100 * (2 * x + 1) + s * (2 * z + 1));
                    }
                }
            }
        }
        return new long[] {push, moment};
    }

    int level(int s) {
        // SLICES only come, so their number tells the hull.
        return levels.computeIfAbsent((heavy() * 10L + slices.size()) * 1000 + s + 80, key -> findLevel(s));
    }

    int findLevel(int s) {
        if (heavy() == 0 || under(s, 4000)[0] < heavy()) {
            return VOID;
        }
        // PUSH never falls as the LEVEL rises, so steps may be skipped that stay below.
        int level = -2000;
        for (int step : new int[] {500, 50, 5, 1}) {
            while (under(s, level + step - 1)[0] < heavy()) {
                level += step;
            }
        }
        return level;
    }

    int arm(int s) {
        long[] wet = under(s, level(s));
        long sum = Math.floorDiv(wet[1] * heavy(), wet[0]);
        for (Weight w : weights) {
            sum -= w.gone ? 0 : w.mass * (100 * w.place + s * w.height);
        }
        for (int[] t : tanks) {
            int place = t[3] == 0 || t[3] == t[2] ? 0 : s * t[0] / 100;
            sum -= t[3] * (100 * place + s * t[1]);
        }
        return (int) sum;
    }

    int at(int s, int what) {
        if (!in(s, -80, 80) || !in(what, 0, 2) || level(s) == VOID) {
            return VOID;
        }
        return what == 0 ? level(s) : what == 1 ? (int) under(s, level(s))[0] : arm(s);
    }

    List<int[]> rests() {
        List<int[]> all = new ArrayList<>();
        for (int s = -80; s < 80; s++) {
            if (level(s) != VOID && level(s + 1) != VOID) {
                int a = arm(s);
                int b = arm(s + 1);
                if (a <= 0 && b > 0) {
                    all.add(new int[] {s, 1});
                }
                if (a > 0 && b <= 0) {
                    all.add(new int[] {s, 0});
                }
            }
        }
        return all;
    }

    int rest(int k) {
        List<int[]> all = rests();
        return in(k, 0, all.size() - 1) ? all.get(k)[0] : VOID;
    }

    int stays(int k) {
        List<int[]> all = rests();
        return in(k, 0, all.size() - 1) ? all.get(k)[1] : NONE;
    }

    int wave(int height, int period, int phase) {
        if (!in(height, 1, 60) || !in(period, 4, 64) || !in(phase, 0, 15) || waves.size() == 8) {
            return NONE;
        }
        waves.add(new int[] {height, period, phase});
        return waves.size() - 1;
    }

    static int sine(int[] wave, int t) {
        return SINES[(t * 16 / wave[1] + wave[2]) % 16];
    }

    int sea(int t) {
        if (!in(t, 0, 599)) {
            return VOID;
        }
        int sum = 0;
        for (int[] w : waves) {
            sum += w[0] * sine(w, t) / 1000;
        }
        return sum;
    }

    boolean set(int what, int value) {
        int[] least = {1, 0, 1, 0};
        int[] most = {1000000, 50, 50, 9};
        if (!in(what, 0, 3) || !in(value, least[what], most[what])) {
            return false;
        }
        settings[what] = value;
        return true;
    }

    static int clip(long v, int most) {
        return (int) Math.max(-most, Math.min(most, v));
    }

    void tick() {
        int[] row = {0, 0, 0, settings[2], 0};
        if (!over) {
            for (Weight w : weights) {
                if (!w.gone && w.mark != NONE) {
                    w.place = clip(w.place + (slope > w.mark ? 1 : slope < -w.mark ? -1 : 0), 19);
                }
            }
            if (level(slope) == VOID) {
                over = true;
                row[0] = slope;
                row[1] = speed;
            } else {
                row[2] = swing();
                row[0] = slope;
                row[1] = speed;
                row[4] = 1;
            }
        }
        kept.add(row);
        now++;
    }

    int swing() {
        lead[0] = -arm(slope) / settings[0];
        lead[1] = sea(now);
        lead[2] = -speed * settings[1] / 10;
        lead[3] = asks("fin") ? -speed * settings[3] / 4 : 0;
        int force = clip(Arrays.stream(lead).sum(), 1000);
        speed = clip(speed + force / settings[2], 30);
        slope += speed;
        if (slope > 80 || slope < -80) {
            slope = clip(slope, 80);
            over = true;
        }
        sick += speed > 4 ? speed - 4 : speed < -4 ? -4 - speed : 0;
        worked += asks("work") ? 1 : 0;
        int level = level(slope);
        for (int[] m : marks) {
            boolean wet = level != VOID && wet(slope, level, m[0], m[1]);
            m[3] += wet && m[2] == 0 ? 1 : 0;
            m[2] = wet ? 1 : 0;
        }
        return force;
    }

    int go(int n) {
        if (!in(n, 0, 100)) {
            return NONE;
        }
        for (int i = 0; i < n && now < 600; i++) {
            tick();
        }
        return now;
    }

    int kept(int tick, int what) {
        return in(tick, 0, now - 1) && in(what, 0, 2) ? kept.get(tick)[what] : VOID;
    }

    int lead(int k) {
        return in(k, 0, 3) ? lead[k] : VOID;
    }

    int feed(int a, int b, int c, int d, int e) {
        if (text.length() > 280) {
            return NONE;
        }
        for (int n : new int[] {a, b, c, d, e}) {
            text.append((char) (n >> 24 & 255)).append((char) (n >> 16 & 255)).append((char) (n >> 8 & 255)).append((char) (n & 255));
        }
        return text.length();
    }

    boolean end(int n) {
        if (!in(n, 0, text.length())) {
            return false;
        }
        text.setLength(n);
        return true;
    }

    int fault() {
        return new Descent(text.toString(), null).fault();
    }

    boolean rules() {
        if (fault() != NONE) {
            return false;
        }
        rules = text.toString();
        text.setLength(0);
        return true;
    }

    boolean asks(String clause) {
        Descent d = new Descent(rules, this);
        d.fault();
        return clause.equals("work") ? d.work : d.fin;
    }

    int name(String name) {
        switch (name) {
            case "slope": return slope;
            case "speed": return speed;
            case "tick": return now;
            case "sick": return sick;
            case "sea": return sea(now);
            case "wet": return (int) marks.stream().filter(m -> m[2] == 1).count();
            default: return (int) weights.stream().filter(w -> !w.gone && w.place != w.told).count();
        }
    }

    int holds(int clause) {
        if (!in(clause, 0, 1) || now == 600) {
            return NONE;
        }
        return asks(clause == 0 ? "work" : "fin") ? 1 : 0;
    }

    int[] outcome(int n, int fins) {
        Plain c = copy();
        c.settings[3] = fins;
        int greatest = Math.abs(c.slope);
        for (int i = 0; i < n && c.now < 600; i++) {
            c.tick();
            greatest = Math.max(greatest, Math.abs(c.slope));
        }
        return new int[] {greatest, c.sick, c.worked};
    }

    int tried(int n, int what) {
        return in(n, 0, 120) && in(what, 0, 2) ? outcome(n, settings[3])[what] : NONE;
    }

    int still(int n) {
        if (!in(n, 0, 120)) {
            return NONE;
        }
        int best = 0;
        for (int f = 9; f >= 0; f--) {
            best = outcome(n, f)[0] <= outcome(n, best)[0] ? f : best;
        }
        return best;
    }

    int hour(int height, int period) {
        if (!in(height, 0, 60) || !in(period, 4, 64) || hours.size() == 12) {
            return NONE;
        }
        hours.add(new int[] {height, period});
        return hours.size();
    }

    int begin(int period) {
        if (!in(period, 4, 64)) {
            return NONE;
        }
        int had = hours.size();
        hours.clear();
        own = period;
        return had;
    }

    int best(int miles, int k) {
        if (miles < 0 || k != NONE && !in(k, 0, hours.size() - 1)) {
            return NONE;
        }
        // Ways in the order of their MILES, the first HOUR first: the first of the least is the BEST.
        int least = Integer.MAX_VALUE;
        int chosen = NONE;
        for (int way = 0; way < 1 << 2 * hours.size(); way++) {
            int all = 0;
            int queasy = 0;
            for (int i = 0; i < hours.size(); i++) {
                int m = way >> 2 * (hours.size() - 1 - i) & 3;
                int differ = hours.get(i)[1] - m - own;
                all += m;
                queasy += hours.get(i)[0] * 64 / (1 + differ * differ);
            }
            if (all >= miles && queasy < least) {
                least = queasy;
                chosen = way;
            }
        }
        if (chosen == NONE || k == NONE) {
            return chosen == NONE ? NONE : least;
        }
        return chosen >> 2 * (hours.size() - 1 - k) & 3;
    }

    int record(int s) {
        if (!in(s, -80, 80) || numbers.size() == 64) {
            return NONE;
        }
        numbers.add(s);
        return numbers.size();
    }

    int clear() {
        int had = numbers.size();
        numbers.clear();
        return had;
    }

    int goes(int w) {
        if (!in(w, 0, waves.size() - 1)) {
            return VOID;
        }
        int sum = 0;
        for (int t = 0; t < numbers.size(); t++) {
            sum += numbers.get(t) * sine(waves.get(w), t);
        }
        return sum;
    }

    int read(int what) {
        int[] answers = {NONE, 0, 0, 0};
        for (int i = 0; i < numbers.size(); i++) {
            answers[1] += i > 0 && numbers.get(i - 1) < 0 && numbers.get(i) >= 0 ? 1 : 0;
            answers[2] += numbers.get(i) * numbers.get(i);
            answers[3] = Math.max(answers[3], Math.abs(numbers.get(i)));
        }
        for (int w = waves.size() - 1; w >= 0 && !numbers.isEmpty(); w--) {
            if (answers[0] == NONE || Math.abs(goes(w)) >= Math.abs(goes(answers[0]))) {
                answers[0] = w;
            }
        }
        return in(what, 0, 3) ? answers[what] : VOID;
    }

    int check(int tick, int number, int mask) {
        if (!in(tick, 0, now - 1) || !in(number, 0, 2) || kept.get(tick)[4] == 0) {
            return NONE;
        }
        int[] row = kept.get(tick).clone();
        int[] ahead = tick == 0 ? new int[5] : kept.get(tick - 1);
        row[number] ^= mask;
        if (row[1] != clip((long) ahead[1] + row[2] / row[3], 30)) {
            return 1;
        }
        return row[0] == clip((long) ahead[0] + row[1], 80) ? 0 : 2;
    }

    int count(int what) {
        int[] all = {now, slices.size(), weights.size(), tanks.size(), waves.size(), marks.size(), text.length(),
            sick, worked, over ? 1 : 0, hours.size(), numbers.size(), heavy()};
        return in(what, 0, 12) ? all[what] : NONE;
    }

    int place(int w) {
        return in(w, 0, weights.size() - 1) && !weights.get(w).gone ? weights.get(w).place : VOID;
    }

    int wetted(int m) {
        return in(m, 0, marks.size() - 1) ? marks.get(m)[3] : NONE;
    }
}
