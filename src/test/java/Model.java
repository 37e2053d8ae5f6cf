import java.math.BigInteger;
import java.util.ArrayDeque;
import java.util.ArrayList;
import java.util.Arrays;
import java.util.Deque;
import java.util.List;

/**
 * The document read a second time, as plainly and as slowly as can be: nothing is kept from one
 * call to the next, every TICK is tried, and rules are worked from their texts. ModelTest compares
 * WindBoat with it.
 */
final class Model {
    static final class Rule {
        List<String> tokens;
        int from;
        int to;
    }

    static final class State implements Cloneable {
        boolean[] land = new boolean[36];
        int[] shelter = new int[36];
        int[][][] winds = new int[7][12][];
        int mark = 35;
        int[][] makers = new int[5][5];
        List<List<List<Integer>>> own = new ArrayList<>();
        List<Integer> kinds = new ArrayList<>();
        List<Boolean> torn = new ArrayList<>();
        List<Integer> tiredness = new ArrayList<>();
        List<Boolean> asleep = new ArrayList<>();
        List<Rule> rules = new ArrayList<>();
        boolean put;
        int cell, heading, sail, tick, steps;
        int firstCell, firstHeading, firstSail, firstTick;
        int tell1, tell2;
        int[] choices = new int[3];
        int[] groups = new int[6];
        int[][] rivals = new int[6][6];

        State() {
            for (int[] row : rivals) Arrays.fill(row, 999);
            for (int a = 0; a < 5; a++) {
                own.add(new ArrayList<>());
                for (int b = 0; b < 5; b++) own.get(a).add(new ArrayList<>());
            }
        }

        State twin() {
            State t = new State();
            t.land = land.clone();
            t.shelter = shelter.clone();
            for (int w = 0; w < 7; w++)
                for (int h = 0; h < 12; h++) t.winds[w][h] = winds[w][h] == null ? null : winds[w][h].clone();
            t.mark = mark;
            for (int a = 0; a < 5; a++) {
                t.makers[a] = makers[a].clone();
                for (int b = 0; b < 5; b++) t.own.get(a).get(b).addAll(own.get(a).get(b));
            }
            t.kinds.addAll(kinds);
            t.torn.addAll(torn);
            t.tiredness.addAll(tiredness);
            t.asleep.addAll(asleep);
            t.rules.addAll(rules);
            t.put = put; t.cell = cell; t.heading = heading; t.sail = sail; t.tick = tick; t.steps = steps;
            t.firstCell = firstCell; t.firstHeading = firstHeading; t.firstSail = firstSail; t.firstTick = firstTick;
            t.tell1 = tell1; t.tell2 = tell2;
            t.choices = choices.clone();
            t.groups = groups.clone();
            for (int r = 0; r < 6; r++) t.rivals[r] = rivals[r].clone();
            return t;
        }
    }

    State s = new State();
    State image;
    StringBuilder tape = new StringBuilder();
    int[] row;
    int[] refused = new int[9];

    private int no(int by) { refused[-by]++; return by; }
    private int nought(int by) { refused[-by]++; return 0; }
    private static boolean in(int v, int a, int b) { return a <= v && v <= b; }

    // ---- the sea, winds

    public int cell(int cell, int land, int shelter) {
        if (!in(cell, 0, 35)) return no(-3);
        if (!in(land, 0, 1) || !in(shelter, 0, 90)) return no(-7);
        int was = s.land[cell] ? 1 : 0;
        s.land[cell] = land == 1;
        s.shelter[cell] = shelter;
        return was;
    }

    private static boolean windHour(int of) { return of >= 0 && in(of % 10, 0, 6) && in(of / 10, 0, 11); }

    public int wind(int of, int from, int force) {
        if (!windHour(of)) return no(-3);
        if (!in(from, 0, 7) || !in(force, 0, 39)) return no(-7);
        int[] was = s.winds[of % 10][of / 10];
        s.winds[of % 10][of / 10] = new int[] {from, force};
        return was == null ? -1 : was[1];
    }

    private int[] air(int wind, int hour) {
        int[] last = {0, 0};
        for (int h = 0; h <= hour; h++) if (s.winds[wind][h] != null) last = s.winds[wind][h];
        return last;
    }

    private int forceIn(int wind, int hour, int cell) { return air(wind, hour)[1] * (100 - s.shelter[cell]) / 100; }

    public int blows(int of, int cell, int what) {
        if (!windHour(of) || !in(cell, 0, 35)) return no(-3);
        if (!in(what, 0, 3)) return no(-7);
        int w = of % 10, h = of / 10;
        int[] answers = {air(w, h)[0], air(w, h)[1], forceIn(w, h, cell), s.winds[w][h] != null ? 1 : 0};
        return answers[what];
    }

    public int mark(int cell) {
        if (!in(cell, 0, 35)) return no(-3);
        int was = s.mark;
        s.mark = cell;
        return was;
    }

    // ---- tables, sails, hands

    public int speed(int angle, int band, int speed) {
        if (!in(angle, 0, 4) || !in(band, 0, 4)) return no(-3);
        if (!in(speed, 0, 99)) return no(-7);
        int was = s.makers[angle][band];
        s.makers[angle][band] = speed;
        return was;
    }

    public int learn(int angle, int band, int speed) {
        if (!in(angle, 0, 4) || !in(band, 0, 4)) return no(-3);
        if (!in(speed, 0, 99)) return no(-7);
        List<Integer> rows = s.own.get(angle).get(band);
        if (rows.size() == 99) return no(-8);
        rows.add(speed);
        return rows.size();
    }

    private int speedBy(int table, int angle, int band) {
        List<Integer> rows = s.own.get(angle).get(band);
        if (table == 0 || rows.size() < 3) return s.makers[angle][band];
        return rows.stream().mapToInt(x -> x).sum() / rows.size();
    }

    public int table(int angle, int band, int what) {
        if (!in(angle, 0, 4) || !in(band, 0, 4)) return no(-3);
        if (!in(what, 0, 4)) return no(-7);
        List<Integer> rows = s.own.get(angle).get(band);
        int[] answers = {s.makers[angle][band], speedBy(1, angle, band), rows.size(),
            rows.stream().mapToInt(x -> x).min().orElse(-1), rows.stream().mapToInt(x -> x).max().orElse(-1)};
        return answers[what];
    }

    public int sail(int kind) {
        if (!in(kind, 0, 4)) return no(-7);
        if (s.kinds.size() == 3) return no(-8);
        s.kinds.add(kind);
        s.torn.add(false);
        return s.kinds.size() - 1;
    }

    private static int paceOf(int kind, int angle, int speed) {
        switch (kind) {
            case 0: return speed;
            case 1: return angle < 3 ? paceOf(0, angle, speed) * 11 / 10 : paceOf(0, angle, speed) * 9 / 10;
            case 2: return paceOf(1, angle, speed) / 2;
            case 3: return angle > 2 ? paceOf(0, angle, speed) * 12 / 10 : paceOf(0, angle, speed) / 2;
            default: return paceOf(3, angle, speed) * 13 / 10;
        }
    }

    private static int holdsOf(int kind) {
        switch (kind) {
            case 0: return 24;
            case 1: return holdsOf(0) + 4;
            case 2: return holdsOf(1) + 11;
            case 3: return holdsOf(0) - 4;
            default: return holdsOf(3) - 4;
        }
    }

    private boolean sailThere(int sail) { return in(sail, 0, s.kinds.size() - 1); }

    public int pace(int sail, int angle, int speed) {
        if (!sailThere(sail) || !in(angle, 0, 4)) return no(-3);
        if (!in(speed, 0, 99)) return no(-7);
        return paceOf(s.kinds.get(sail), angle, speed);
    }

    public int sailOf(int sail, int what) {
        if (!sailThere(sail)) return no(-3);
        if (!in(what, 0, 2)) return no(-7);
        return what == 0 ? s.kinds.get(sail) : what == 1 ? holdsOf(s.kinds.get(sail)) : s.torn.get(sail) ? 1 : 0;
    }

    public int taken(int sail, int k) {
        if (!sailThere(sail)) return no(-3);
        if (!in(k, 0, 4)) return no(-7);
        String[] lines = {"0", "01", "012", "03", "034"};
        int kind = s.kinds.get(sail);
        return lines[kind].indexOf('0' + k) < 0 ? no(-5) : holdsOf(kind);
    }

    public int hand() {
        if (s.asleep.size() == 8) return no(-8);
        s.asleep.add(false);
        s.tiredness.add(0);
        return s.asleep.size() - 1;
    }

    public int sleep(int hand, int asleep) {
        if (!in(hand, 0, s.asleep.size() - 1)) return no(-3);
        if (!in(asleep, 0, 1)) return no(-7);
        s.asleep.set(hand, asleep == 1);
        return s.tiredness.get(hand);
    }

    private int awake() {
        int n = 0;
        for (boolean a : s.asleep) if (!a) n++;
        return n;
    }

    private int tiredAwake() {
        int least = sayOf(2, 0, s.kinds.isEmpty() ? 0 : s.kinds.get(0), hour(s.tick))[1];
        int n = 0;
        for (int h = 0; h < s.asleep.size(); h++) if (!s.asleep.get(h) && s.tiredness.get(h) >= least) n++;
        return n;
    }

    private int change() { return awake() == 0 ? 9 : 2 + tiredAwake(); }

    private static int hour(int tick) { return tick == 120 ? 11 : tick / 10; }

    // ---- rules

    public int feed(int bytes, int n) {
        if (n < 0) return no(-4);
        if (n > 4) return no(-7);
        if (tape.length() + n > 120) return no(-8);
        StringBuilder back = new StringBuilder();
        for (int i = 0; i < n; i++) { back.append((char) (bytes & 255)); bytes >>= 8; }
        tape.append(back.reverse());
        return tape.length();
    }

    public int wipe() {
        int had = tape.length();
        tape.setLength(0);
        return had;
    }

    public int rule(int from, int to) {
        if (from < 0 || to > 12 || from >= to) return no(-7);
        if (s.rules.size() == 12) return no(-8);
        int fault = RuleText.fault(tape.toString());
        if (fault >= 0) return -10 - fault;
        Rule r = new Rule();
        r.tokens = RuleText.tokens(tape.toString());
        r.from = from;
        r.to = to;
        s.rules.add(r);
        tape.setLength(0);
        return s.rules.size() - 1;
    }

    /** Which rule (or -1), and what it says. */
    private int[] sayOf(int key, int cell, int kind, int hour) {
        int[] found = {-1, new int[] {0, 39, 40}[key]};
        int awake = awake();
        for (int r = 0; r < s.rules.size(); r++) {
            Rule rule = s.rules.get(r);
            RuleText text = new RuleText(rule.tokens, new int[] {cell, cell / 6, hour, kind, s.shelter[cell], awake});
            if (text.key() == key && rule.from <= hour && hour < rule.to) {
                int e = text.e();
                if (text.condition() != 0) found = new int[] {r, e};
            }
        }
        return found;
    }

    private boolean asked(int of, int cell, int hour) {
        return of >= 0 && in(of / 10, 0, 2) && sailThere(of % 10) && in(cell, 0, 35) && in(hour, 0, 11);
    }

    public int says(int of, int cell, int hour) {
        return asked(of, cell, hour) ? sayOf(of / 10, cell, s.kinds.get(of % 10), hour)[1] : nought(-3);
    }

    public int why(int of, int cell, int hour) {
        return asked(of, cell, hour) ? sayOf(of / 10, cell, s.kinds.get(of % 10), hour)[0] : no(-3);
    }

    // ---- ways

    private static int eighths(int a, int b) { int d = Math.floorMod(a - b, 8); return d > 4 ? 8 - d : d; }

    private static final int[][] BY = {{-1, 0}, {-1, 1}, {0, 1}, {1, 1}, {1, 0}, {1, -1}, {0, -1}, {-1, -1}};

    private static int next(int cell, int heading) {
        int r = cell / 6 + BY[heading][0], c = cell % 6 + BY[heading][1];
        return in(r, 0, 5) && in(c, 0, 5) ? 6 * r + c : -1;
    }

    /** What rules say, kept for one call of the face only. */
    private final int[][][][] heard = new int[2][36][5][12];

    private void listen() {
        for (int key = 0; key < 2; key++)
            for (int cell = 0; cell < 36; cell++)
                for (int kind : s.kinds)
                    for (int hour = 0; hour < 12; hour++) heard[key][cell][kind][hour] = sayOf(key, cell, kind, hour)[1];
    }

    /** TICKS of a STEP that begins at a TICK, 0 if it may not. */
    private int stepTicks(int wind, int table, int cell, int heading, int sail, int tick) {
        int to = next(cell, heading);
        if (to < 0 || s.land[to] || s.torn.get(sail)) return 0;
        int h = hour(tick), kind = s.kinds.get(sail), force = forceIn(wind, h, cell);
        if (heard[0][to][kind][h] != 0) return 0;
        if (force > holdsOf(kind) || force > heard[1][cell][kind][h]) return 0;
        int angle = eighths(heading, air(wind, h)[0]);
        int pace = paceOf(kind, angle, speedBy(table, angle, force / 8));
        if (pace <= 0) return 0;
        int miles = heading % 2 == 0 ? 100 : 140;
        int ticks = miles / pace;
        return ticks * pace < miles ? ticks + 1 : ticks;
    }

    private static int number(int cell, int heading, int sail) { return 3 * (8 * cell + heading) + sail; }

    final class Way {
        final int[] label = new int[864];
        int[][] stepTicks = new int[864][120];
        final int change;
        final int first;

        Way(int wind, int table, int change, int first, int tick) {
            this.change = change;
            this.first = first;
            for (int n = 0; n < 864; n++)
                for (int t = 0; t < 120; t++)
                    stepTicks[n][t] = n % 3 >= s.kinds.size() ? 0
                        : t % 10 != 0 ? stepTicks[n][t - 1]
                        : Model.this.stepTicks(wind, table, n / 24, n / 3 % 8, n % 3, t);
            run(first, tick);
        }

        Way(Way charted, int first, int tick) {
            this.change = charted.change;
            this.first = first;
            this.stepTicks = charted.stepTicks;
            run(first, tick);
        }

        private void run(int first, int tick) {
            Arrays.fill(label, 999);
            label[first] = tick;
            for (int t = tick; t <= 120; t++)
                for (int n = 0; n < 864; n++)
                    if (label[n] == t)
                        for (int to : reach(n))
                            for (int begin = t; begin <= (n / 24 == to / 24 ? t : 120); begin++) {
                                int end = begin + ticks(n, to, begin);
                                if (end > begin && end <= 120) label[to] = Math.min(label[to], end);
                            }
        }

        private List<Integer> reach(int n) {
            List<Integer> to = new ArrayList<>();
            int cell = n / 24, heading = n / 3 % 8, sail = n % 3;
            for (int h = 0; h < 8; h++) if (h != heading) to.add(number(cell, h, sail));
            for (int k = 0; k < s.kinds.size(); k++) if (k != sail && !s.torn.get(k)) to.add(number(cell, heading, k));
            if (next(cell, heading) >= 0) to.add(number(next(cell, heading), heading, sail));
            return to;
        }

        /** TICKS of the ACT that leads from a state to one of those that reach() told; 0: none then. */
        private int ticks(int n, int to, int begin) {
            if (n / 24 != to / 24) return begin >= 120 ? 0 : stepTicks[n][begin];
            if (n % 3 != to % 3) return change;
            return eighths(n / 3 % 8, to / 3 % 8);
        }

        int best(int cell) {
            int best = 24 * cell;
            for (int n = 24 * cell; n < 24 * cell + 24; n++) if (label[n] < label[best]) best = n;
            return best;
        }

        int soonest(int cell) { return label[best(cell)]; }

        /** Its steps as heading and sail, or null. */
        List<Integer> plan(int cell) {
            int at = best(cell);
            if (label[at] == 999) return null;
            List<Integer> steps = new ArrayList<>();
            while (at != first) {
                int from = came(at);
                if (from / 24 != at / 24) steps.add(0, 10 * (at / 3 % 8) + at % 3);
                at = from;
            }
            return steps;
        }

        private int came(int at) {
            for (int n = 0; n < 864; n++)
                if (label[n] < label[at] && reach(n).contains(at))
                    for (int begin = label[n]; begin < label[at]; begin++)
                        if (ticks(n, at, begin) > 0 && begin + ticks(n, at, begin) == label[at]) return n;
            throw new IllegalStateException("a state that came from nowhere");
        }
    }

    private Way wayFromBoat(int wind, int table) {
        listen();
        return new Way(wind, table, change(), number(s.cell, s.heading, s.sail), s.tick);
    }

    public int soonest(int wind, int cell, int table) {
        if (!s.put) return no(-2);
        if (!in(wind, 0, 6) || !in(cell, 0, 35)) return no(-3);
        if (!in(table, 0, 1)) return no(-7);
        int tick = wayFromBoat(wind, table).soonest(cell);
        return tick == 999 ? -1 : tick;
    }

    public int plan(int wind, int cell, int k) {
        if (!s.put) return no(-2);
        if (!in(wind, 0, 6) || !in(cell, 0, 35)) return no(-3);
        if (k < -1) return no(-7);
        List<Integer> plan = wayFromBoat(wind, 1).plan(cell);
        if (plan == null) return -1;
        return k == -1 ? plan.size() : k < plan.size() ? plan.get(k) : -1;
    }

    public int telling(int first, int second) {
        if (!in(first, 0, 120) || !in(second, first, 120)) return no(-7);
        int was = s.tell1;
        s.tell1 = first;
        s.tell2 = second;
        return was;
    }

    public int choice(int choice, int cell) {
        if (!in(choice, 0, 2) || !in(cell, 0, 35)) return no(-3);
        int was = s.choices[choice];
        s.choices[choice] = cell;
        return was;
    }

    public int group(int world, int group) {
        if (!in(world, 0, 5)) return no(-3);
        if (!in(group, 0, 2)) return no(-7);
        int was = s.groups[world];
        s.groups[world] = group;
        return was;
    }

    private int comesOf(Way way, int c, int q) {
        int at = way.best(s.choices[c]);
        if (way.label[at] == 999) return 999;
        Way second = new Way(way, at, Math.max(way.label[at], s.tell1));
        at = second.best(s.choices[q]);
        if (second.label[at] == 999) return 999;
        return new Way(way, at, Math.max(second.label[at], s.tell2)).soonest(s.mark);
    }

    public int comes(int choices, int world) {
        if (!s.put) return no(-2);
        if (choices < 0 || !in(choices / 10, 0, 2) || !in(choices % 10, 0, 2) || !in(world, 0, 5)) return no(-3);
        return comesOf(wayFromBoat(world, 1), choices / 10, choices % 10);
    }

    private boolean told(int world) {
        for (int h = 0; h < 12; h++) if (s.winds[world][h] != null) return true;
        return false;
    }

    private int weightOf(int world) {
        int hits = 0;
        for (int w = 0; w < 6; w++)
            for (int h = 0; h < 12; h++)
                if (w / 2 == world / 2 && s.winds[w][h] != null && s.winds[6][h] != null
                    && eighths(s.winds[w][h][0], s.winds[6][h][0]) < 2
                    && Math.abs(s.winds[w][h][1] - s.winds[6][h][1]) < 5) hits++;
        return 1 + hits;
    }

    private static final class Tree {
        int c;
        long aim;
        int[] q = {-1, -1, -1};
        int[] comes = new int[6];
    }

    /** What the AIM is of some worlds, given when the boat comes in each. */
    private long aim(int aim, List<Integer> worlds, int[] comes, int[] direct) {
        long sum = 0, worst = 0, rue = 0;
        for (int w : worlds) {
            sum += (long) weightOf(w) * comes[w];
            worst = Math.max(worst, comes[w]);
            rue = Math.max(rue, comes[w] - direct[w]);
        }
        return aim == 0 ? sum : aim == 1 ? worst : rue;
    }

    private int[][][] allComes;
    private int[] direct;
    /** Whether the call ahead was of a tree as well, so that all comes stand as they were. */
    boolean stillAmongTrees;

    private void comeEverywhere() {
        if (stillAmongTrees && allComes != null) return;
        allComes = new int[3][3][6];
        direct = new int[6];
        for (int w = 0; w < 6; w++)
            if (told(w)) {
                Way way = wayFromBoat(w, 1);
                direct[w] = way.soonest(s.mark);
                for (int c = 0; c < 3; c++) for (int q = 0; q < 3; q++) allComes[c][q][w] = comesOf(way, c, q);
            }
    }

    private Tree treeBy(int aim, int[] groups) {
        Tree best = null;
        for (int c = 0; c < 3; c++) {
            Tree tree = new Tree();
            tree.c = c;
            List<Integer> all = new ArrayList<>();
            for (int g = 0; g < 3; g++) {
                List<Integer> worlds = new ArrayList<>();
                for (int w = 0; w < 6; w++) if (told(w) && groups[w] == g) worlds.add(w);
                if (worlds.isEmpty()) continue;
                all.addAll(worlds);
                for (int q = 2; q >= 0; q--)
                    if (tree.q[g] < 0 || aim(aim, worlds, allComes[c][q], direct) <= aim(aim, worlds, allComes[c][tree.q[g]], direct)) tree.q[g] = q;
                for (int w : worlds) tree.comes[w] = allComes[c][tree.q[g]][w];
            }
            tree.aim = aim(aim, all, tree.comes, direct);
            if (best == null || tree.aim < best.aim) best = tree;
        }
        return best;
    }

    private boolean noTree() {
        boolean any = false;
        for (int w = 0; w < 6; w++) any |= told(w);
        return !s.put || !any;
    }

    public long tree(int aim, int what) {
        if (noTree()) return no(-2);
        if (!in(aim, 0, 2) || !in(what, 0, 5)) return no(-7);
        comeEverywhere();
        Tree tree = treeBy(aim, s.groups);
        if (what == 0) return tree.c;
        if (what == 1) return tree.aim;
        if (what < 5) return tree.q[what - 2];
        long places = 0;
        for (int w = 0; w < 6; w++)
            if (told(w)) {
                int place = 1;
                for (int r = 0; r < 6; r++) if (s.rivals[r][w] < tree.comes[w]) place++;
                places += place * weightOf(w);
            }
        return places;
    }

    public long worth() {
        if (noTree()) return no(-2);
        comeEverywhere();
        return treeBy(0, new int[6]).aim - treeBy(0, s.groups).aim;
    }

    public int weight(int world) { return in(world, 0, 5) ? weightOf(world) : no(-3); }

    public int rival(int rival, int world, int tick) {
        if (!in(rival, 0, 5) || !in(world, 0, 5)) return no(-3);
        if (!in(tick, 0, 999)) return no(-7);
        int was = s.rivals[rival][world];
        s.rivals[rival][world] = tick;
        return was;
    }

    public int game() {
        if (row == null) return nought(-2);
        if (row.length != 4 && row.length != 9) return nought(-5);
        for (int v : row) if (!in(v, -999, 999)) return nought(-7);
        return GameValue.thousandths(row, row.length == 4 ? 2 : 3);
    }

    // ---- the voyage

    public int at(int where, int tick) {
        int cell = where / 100, heading = where / 10 % 10, sail = where % 10;
        if (where < 0 || !in(cell, 0, 35) || !in(heading, 0, 7) || !sailThere(sail)) return no(-3);
        if (s.land[cell]) return no(-5);
        if (s.torn.get(sail) || !in(tick, 0, 120)) return no(-7);
        s.put = true;
        s.cell = s.firstCell = cell;
        s.heading = s.firstHeading = heading;
        s.sail = s.firstSail = sail;
        s.tick = s.firstTick = tick;
        return number(cell, heading, sail);
    }

    private void goBy(int n) {
        for (int i = 0; i < n; i++) {
            for (int h = 0; h < s.asleep.size(); h++)
                s.tiredness.set(h, s.asleep.get(h) ? Math.max(0, s.tiredness.get(h) - 2) : s.tiredness.get(h) + 1);
            if (forceIn(6, hour(s.tick), s.cell) > holdsOf(s.kinds.get(s.sail))) s.torn.set(s.sail, true);
            s.tick++;
        }
    }

    public int stay(int n) {
        if (!s.put) return no(-2);
        if (n < 0) return no(-4);
        if (!in(n, 1, 60)) return no(-7);
        if (s.tick + n > 120) return no(-8);
        goBy(n);
        return s.tick;
    }

    public int go(int heading) {
        if (!s.put) return no(-2);
        if (!in(heading, 0, 7)) return no(-3);
        State before = s.twin();
        int turn = eighths(heading, s.heading);
        if (s.tick + turn > 120) return no(-7);
        goBy(turn);
        listen();
        int step = stepTicks(6, 1, s.cell, heading, s.sail, s.tick);
        if (step == 0 || s.tick + step > 120) {
            s = before;
            return no(-7);
        }
        goBy(step);
        s.heading = heading;
        s.cell = next(s.cell, heading);
        s.steps++;
        return s.tick;
    }

    public int raise(int sail) {
        if (!s.put) return no(-2);
        if (!sailThere(sail)) return no(-3);
        if (s.sail == sail || s.torn.get(sail)) return no(-7);
        if (s.tick + change() > 120) return no(-8);
        goBy(change());
        s.sail = sail;
        return s.tick;
    }

    public int mend(int sail) {
        if (!s.put) return no(-2);
        if (!sailThere(sail)) return no(-3);
        if (!s.torn.get(sail)) return no(-7);
        if (s.tick + 12 > 120) return no(-8);
        goBy(12);
        s.torn.set(sail, false);
        return s.tick;
    }

    public int boat(int what) {
        if (!s.put) return no(-2);
        if (!in(what, 0, 7)) return no(-7);
        int[] answers = {s.cell, s.heading, s.sail, s.tick, change(), awake(), tiredAwake(),
            s.tiredness.stream().mapToInt(x -> x).sum()};
        return answers[what];
    }

    private int sailed(int world, int set) {
        int change = (set & 4) != 0 ? 2 : change();
        int first = number(s.firstCell, s.firstHeading, s.firstSail);
        Way way = new Way((set & 1) != 0 ? 6 : world, (set & 2) != 0 ? 1 : 0, change, first, s.firstTick);
        List<Integer> plan = way.plan(s.mark);
        if (plan == null) return 999;
        int cell = s.firstCell, heading = s.firstHeading, sail = s.firstSail, tick = s.firstTick;
        for (int step : plan) {
            tick += eighths(heading, step / 10);
            heading = step / 10;
            if (sail != step % 10) tick += change;
            sail = step % 10;
            while (tick <= 120 && stepTicks(6, 1, cell, heading, sail, tick) == 0) tick++;
            if (tick > 120) return 999;
            tick += stepTicks(6, 1, cell, heading, sail, tick);
            if (tick > 120) return 999;
            cell = next(cell, heading);
        }
        return tick;
    }

    public int lost(int world, int what) {
        if (!s.put) return no(-2);
        if (!in(world, 0, 5)) return no(-3);
        if (!in(what, 0, 4)) return no(-7);
        listen();
        int[] sailed = new int[8];
        for (int set = 0; set < 8; set++) sailed[set] = sailed(world, set);
        if (what == 3) return sailed[0];
        if (what == 4) return sailed[7];
        int share = 0;
        int[][] orders = {{0, 1, 2}, {0, 2, 1}, {1, 0, 2}, {1, 2, 0}, {2, 0, 1}, {2, 1, 0}};
        for (int[] order : orders) {
            int right = 0;
            for (int one : order) {
                int then = right | 1 << one;
                if (one == what) share += sailed[right] - sailed[then];
                right = then;
            }
        }
        return share;
    }

    public int count(int what) {
        int lands = 0, hours = 0, rows = 0, worlds = 0;
        for (boolean l : s.land) if (l) lands++;
        for (int w = 0; w < 7; w++) for (int h = 0; h < 12; h++) if (s.winds[w][h] != null) hours++;
        for (List<List<Integer>> a : s.own) for (List<Integer> b : a) rows += b.size();
        for (int w = 0; w < 6; w++) if (told(w)) worlds++;
        int[] answers = {lands, hours, s.kinds.size(), (int) s.torn.stream().filter(t -> t).count(), s.asleep.size(),
            s.rules.size(), tape.length(), rows, worlds, s.steps, s.mark, s.put ? 1 : 0};
        return in(what, 0, 11) ? answers[what] : nought(-7);
    }

    public int image() {
        image = s.twin();
        return s.put ? s.tick : 0;
    }

    public int back() {
        if (image == null) return no(-2);
        s = image.twin();
        return s.put ? s.tick : 0;
    }

    // ---- rows

    public int lay(int n) {
        if (n < 0) return no(-4);
        if (n > 12) return no(-7);
        row = new int[n];
        return n;
    }

    public int set(int i, int v) {
        if (row == null) return nought(-2);
        if (!in(i, 0, row.length - 1)) return nought(-3);
        int was = row[i];
        row[i] = v;
        return was;
    }

    public int tear() {
        int was = row == null ? 0 : 1;
        row = null;
        return was;
    }

    public int row(int i) {
        if (row == null) return nought(-2);
        return in(i, 0, row.length - 1) ? row[i] : nought(-3);
    }

    public int copy(int i, int j, int n) {
        if (row == null) return no(-2);
        if (n < 0) return no(-4);
        if (i < 0 || j < 0 || (long) i + n > row.length || (long) j + n > row.length) return no(-6);
        int[] was = row.clone();
        for (int k = 0; k < n; k++) row[j + k] = was[i + k];
        return n;
    }

    public int status(int by) { return in(by, -8, -2) ? refused[-by] : no(-7); }

    /** A rule's text: its fault by a machine of two states, its worth by reading it anew each time. */
    static final class RuleText {
        private static final List<String> KEYS = List.of("shut", "gust", "tired");
        private static final List<String> NAMES = List.of("cell", "row", "hour", "sail", "shelter", "hands");
        private static final List<String> OTHERS = List.of("if", "or", "and", "not");
        private final List<String> tokens;
        private final int[] names;
        private int at;

        RuleText(List<String> tokens, int[] names) {
            this.tokens = tokens;
            this.names = names;
        }

        static List<String> tokens(String text) {
            List<String> tokens = new ArrayList<>();
            for (int i = 0; i < text.length(); ) {
                int end = tokenEnd(text, i);
                if (text.charAt(i) != ' ') tokens.add(text.substring(i, end));
                i = end;
            }
            tokens.add("");
            return tokens;
        }

        private static int tokenEnd(String text, int from) {
            char c = text.charAt(from);
            int end = from + 1;
            if (c >= 'a' && c <= 'z') while (end < text.length() && text.charAt(end) >= 'a' && text.charAt(end) <= 'z') end++;
            if (c >= '0' && c <= '9') while (end < text.length() && text.charAt(end) >= '0' && text.charAt(end) <= '9') end++;
            return end;
        }

        /** The place of the first token that can't stand, or -1. */
        static int fault(String text) {
            Deque<String> open = new ArrayDeque<>();
            Deque<Boolean> compared = new ArrayDeque<>();
            String state = "key";
            boolean notMayStand = false, compareMayStand = true, ifMayStand = true;
            for (int i = 0; i < text.length(); ) {
                int end = tokenEnd(text, i);
                String t = text.substring(i, end);
                int place = i;
                i = end;
                if (t.equals(" ")) continue;
                if (state.equals("key")) {
                    if (!KEYS.contains(t)) return place;
                    state = "operand";
                    notMayStand = true;
                } else if (state.equals("operand")) {
                    boolean opens = t.equals("(") || t.equals("-") || t.equals("not") && notMayStand;
                    if (opens && open.size() == 6) return place;
                    if (opens) {
                        open.push(t);
                        if (t.equals("(")) { compared.push(compareMayStand); compareMayStand = true; notMayStand = true; }
                        if (t.equals("-")) notMayStand = false;
                    } else if (NAMES.contains(t) || t.matches("[0-9]{1,5}")) {
                        while (!open.isEmpty() && open.peek().equals("-")) open.pop();
                        state = "operator";
                    } else {
                        return place;
                    }
                } else {
                    boolean ends = t.equals("and") || t.equals("or") || t.equals(")") || t.equals("if");
                    if (ends) while (!open.isEmpty() && open.peek().equals("not")) open.pop();
                    if (t.matches("[-+*/%]")) {
                        state = "operand";
                        notMayStand = false;
                    } else if (t.matches("[=<>]") && compareMayStand) {
                        state = "operand";
                        notMayStand = false;
                        compareMayStand = false;
                    } else if (t.equals("and") || t.equals("or")) {
                        state = "operand";
                        notMayStand = true;
                        compareMayStand = true;
                    } else if (t.equals(")") && !open.isEmpty()) {
                        open.pop();
                        while (!open.isEmpty() && open.peek().equals("-")) open.pop();
                        compareMayStand = compared.pop();
                    } else if (t.equals("if") && ifMayStand && open.isEmpty()) {
                        ifMayStand = false;
                        state = "operand";
                        notMayStand = true;
                        compareMayStand = true;
                    } else {
                        return place;
                    }
                }
            }
            while (!open.isEmpty() && open.peek().equals("not")) open.pop();
            return state.equals("operator") && open.isEmpty() ? -1 : text.length();
        }

        int key() { return KEYS.indexOf(tokens.get(0)); }

        int e() { at = 1; return level(0); }

        /** The condition (1 without one); asked behind e(). */
        int condition() {
            if (!tokens.get(at).equals("if")) return 1;
            at++;
            return level(0);
        }

        private static final List<List<String>> LEVELS = List.of(List.of("or"), List.of("and"), List.of("=", "<", ">"),
            List.of("+", "-"), List.of("*", "/", "%"));

        private int level(int n) {
            if (n == 5) return one();
            if (n == 2 && tokens.get(at).equals("not")) {
                at++;
                return level(2) == 0 ? 1 : 0;
            }
            int left = level(n + 1);
            while (LEVELS.get(n).contains(tokens.get(at))) {
                String sign = tokens.get(at++);
                int right = level(n + 1);
                left = both(sign, left, right);
            }
            return left;
        }

        private int one() {
            String t = tokens.get(at++);
            if (t.equals("-")) return -one();
            if (t.equals("(")) {
                int e = level(0);
                at++;
                return e;
            }
            return NAMES.contains(t) ? names[NAMES.indexOf(t)] : Integer.parseInt(t);
        }

        private static int both(String sign, int a, int b) {
            switch (sign) {
                case "or": return a != 0 || b != 0 ? 1 : 0;
                case "and": return a != 0 && b != 0 ? 1 : 0;
                case "=": return a == b ? 1 : 0;
                case "<": return a < b ? 1 : 0;
                case ">": return a > b ? 1 : 0;
                case "+": return (int) ((long) a + b);
                case "-": return (int) ((long) a - b);
                case "*": return (int) ((long) a * b);
                case "/": return b == 0 ? 0 : (int) ((long) a / b);
                default: return b == 0 ? 0 : (int) ((long) a % b);
            }
        }
    }

    /** The worth of a game by mixes of both sides: that they meet proves that it is exact. */
    static final class GameValue {
        static int thousandths(int[] pays, int side) {
            int[][] game = new int[side][side], turned = new int[side][side];
            for (int r = 0; r < side; r++)
                for (int c = 0; c < side; c++) {
                    game[r][c] = pays[r * side + c];
                    turned[c][r] = -pays[r * side + c];
                }
            BigInteger[] sure = best(game), other = best(turned);
            if (!sure[0].multiply(other[1]).equals(other[0].negate().multiply(sure[1]))) throw new IllegalStateException("no saddle");
            BigInteger[] parts = sure[0].multiply(BigInteger.valueOf(1000)).divideAndRemainder(sure[1]);
            return parts[1].signum() < 0 ? parts[0].intValue() - 1 : parts[0].intValue();
        }

        /** The greatest of what mixes are sure of, as above / below. */
        private static BigInteger[] best(int[][] game) {
            int side = game.length;
            BigInteger[] best = null;
            for (int rows = 1; rows < 1 << side; rows++)
                for (int columns = 1; columns < 1 << side; columns++)
                    if (Integer.bitCount(rows) == Integer.bitCount(columns)) {
                        long[] mix = equalizer(game, rows, columns);
                        if (mix == null) continue;
                        long all = 0, worst = Long.MAX_VALUE;
                        for (long m : mix) all += m;
                        for (int c = 0; c < side; c++) {
                            long paid = 0;
                            for (int r = 0; r < side; r++) paid += mix[r] * game[r][c];
                            worst = Math.min(worst, paid);
                        }
                        BigInteger[] v = {BigInteger.valueOf(worst), BigInteger.valueOf(all)};
                        if (best == null || v[0].multiply(best[1]).compareTo(best[0].multiply(v[1])) > 0) best = v;
                    }
            return best;
        }

        /** A mix of some rows by which some columns pay alike, by Cramer's rule; null: none. */
        private static long[] equalizer(int[][] game, int rows, int columns) {
            int n = Integer.bitCount(rows);
            int[] r = places(rows, n), c = places(columns, n);
            // unknowns: the mix's n parts and what it pays; equations: n columns alike, the parts are 1 together
            long[][] left = new long[n + 1][n + 1];
            for (int j = 0; j < n; j++) {
                for (int i = 0; i < n; i++) left[j][i] = game[r[i]][c[j]];
                left[j][n] = -1;
                left[n][j] = 1;
            }
            long det = det(left);
            if (det == 0) return null;
            long[] mix = new long[game.length];
            for (int i = 0; i < n; i++) {
                long[][] with = new long[n + 1][];
                for (int k = 0; k <= n; k++) {
                    with[k] = left[k].clone();
                    with[k][i] = k == n ? 1 : 0;
                }
                mix[r[i]] = det(with) * (det < 0 ? -1 : 1);
                if (mix[r[i]] < 0) return null;
            }
            return mix;
        }

        private static int[] places(int bits, int n) {
            int[] p = new int[n];
            for (int i = 0, k = 0; k < n; i++) if ((bits >> i & 1) != 0) p[k++] = i;
            return p;
        }

        private static long det(long[][] m) {
            if (m.length == 1) return m[0][0];
            long sum = 0;
            for (int c = 0; c < m.length; c++) {
                long[][] rest = new long[m.length - 1][m.length - 1];
                for (int i = 1; i < m.length; i++)
                    for (int j = 0, k = 0; j < m.length; j++) if (j != c) rest[i - 1][k++] = m[i][j];
                sum += (c % 2 == 0 ? 1 : -1) * m[0][c] * det(rest);
            }
            return sum;
        }
    }
}
