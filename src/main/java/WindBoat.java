import java.util.Arrays;

/**
 * A boat by the winds: a sea of cells, winds as worlds foretell them, sails, hands, rules read
 * from texts, the soonest ways, trees of choices and a voyage. The document DOC.md tells what
 * each call answers; README.md tells how the parts below belong together.
 */
public final class WindBoat {
    public static final int NONE = -1;
    public static final int MISSING = -2;
    public static final int BEYOND = -3;
    public static final int BELOW = -4;
    public static final int KIND = -5;
    public static final int COPY = -6;
    public static final int NO = -7;
    public static final int FULL = -8;

    private static final int SIDE = 6;
    private static final int CELLS = 36;
    private static final int HEADINGS = 8;
    private static final int HOURS = 12;
    private static final int HOUR_TICKS = 10;
    private static final int LAST_TICK = 120;
    private static final int WORLDS = 6;
    private static final int TRUTH = 6;
    private static final int WINDS = 7;
    private static final int ANGLES = 5;
    private static final int BANDS = 5;
    private static final int TOP_SPEED = 99;
    private static final int MAKERS = 0;
    private static final int LEARNT = 1;
    private static final int SAILS = 3;
    private static final int HANDS = 8;
    private static final int RULES = 12;
    private static final int TAPE = 120;
    private static final int CHOICES = 3;
    private static final int GROUPS = 3;
    private static final int RIVALS = 6;
    private static final int NEVER = 999;
    private static final int STATES = CELLS * HEADINGS * SAILS;
    private static final int CELL_STATES = HEADINGS * SAILS;
    private static final int MEND_TICKS = 12;
    private static final int RESTED_CHANGE = 2;
    private static final int ROW = 12;

    private static final int SHUT = 0;
    private static final int GUST = 1;
    private static final int TIRED = 2;

    private final Log now;
    private final Log kept = new Log();
    private boolean isKept;
    private final Tape tape = new Tape();
    private final Chart chart;
    private final Ways ways;
    private final Choices choices;
    private final Losses losses;
    private final int[] numbers;
    private int numbersLaid = NONE;
    private final Game mixing;
    private final int[] refusals = new int[1 - FULL];

    public WindBoat() {
        Log log = new Log();
        Chart chartOfLog = new Chart(log);
        Ways waysOfChart = new Ways(log, chartOfLog);
        int[] row = new int[ROW];
        now = log;
        chart = chartOfLog;
        ways = waysOfChart;
        choices = new Choices(log, chartOfLog, waysOfChart);
        losses = new Losses(log, chartOfLog, waysOfChart);
        numbers = row;
        mixing = new Game(row);
    }

    // ---- the sea, winds

    public int cell(int cell, int land, int shelter) {
        if (!isCell(cell)) {
            return refuse(BEYOND);
        }
        if (!isFlag(land) || !within(shelter, 0, 90)) {
            return refuse(NO);
        }
        Sea sea = changing().sea;
        boolean was = sea.land[cell];
        sea.land[cell] = land == 1;
        sea.shelter[cell] = shelter;
        return flag(was);
    }

    public int wind(int of, int from, int force) {
        if (!isWindOfHour(of)) {
            return refuse(BEYOND);
        }
        if (!within(from, 0, HEADINGS - 1) || !within(force, 0, 39)) {
            return refuse(NO);
        }
        Sea sea = changing().sea;
        int place = of % 10 * HOURS + of / 10;
        int was = sea.force[place];
        sea.from[place] = from;
        sea.force[place] = force;
        return was;
    }

    public int blows(int of, int cell, int what) {
        if (!isWindOfHour(of) || !isCell(cell)) {
            return refuse(BEYOND);
        }
        int wind = of % 10;
        int hour = of / 10;
        switch (what) {
            case 0: return now.sea.fromIn(wind, hour);
            case 1: return now.sea.forceIn(wind, hour);
            case 2: return now.sea.forceAt(wind, hour, cell);
            case 3: return flag(now.sea.isTold(wind, hour));
            default: return refuse(NO);
        }
    }

    public int mark(int cell) {
        if (!isCell(cell)) {
            return refuse(BEYOND);
        }
        Sea sea = changing().sea;
        int was = sea.mark;
        sea.mark = cell;
        return was;
    }

    // ---- tables, sails, hands

    public int speed(int angle, int band, int speed) {
        if (!isAngle(angle) || !isBand(band)) {
            return refuse(BEYOND);
        }
        if (!isSpeed(speed)) {
            return refuse(NO);
        }
        Speeds speeds = changing().speeds;
        int place = angle * BANDS + band;
        int was = speeds.makers[place];
        speeds.makers[place] = speed;
        return was;
    }

    public int learn(int angle, int band, int speed) {
        if (!isAngle(angle) || !isBand(band)) {
            return refuse(BEYOND);
        }
        if (!isSpeed(speed)) {
            return refuse(NO);
        }
        int place = angle * BANDS + band;
        if (now.speeds.rows[place] >= Speeds.MOST_ROWS) {
            return refuse(FULL);
        }
        return changing().speeds.see(place, speed);
    }

    public int table(int angle, int band, int what) {
        if (!isAngle(angle) || !isBand(band)) {
            return refuse(BEYOND);
        }
        Speeds speeds = now.speeds;
        int place = angle * BANDS + band;
        switch (what) {
            case 0: return speeds.makers[place];
            case 1: return speeds.by(LEARNT, place);
            case 2: return speeds.rows[place];
            case 3: return speeds.least[place];
            case 4: return speeds.greatest[place];
            default: return refuse(NO);
        }
    }

    public int sail(int kind) {
        if (!within(kind, 0, Boat.KINDS - 1)) {
            return refuse(NO);
        }
        if (now.boat.sails >= SAILS) {
            return refuse(FULL);
        }
        return changing().boat.addSail(kind);
    }

    public int pace(int sail, int angle, int speed) {
        if (!isSail(sail) || !isAngle(angle)) {
            return refuse(BEYOND);
        }
        if (!isSpeed(speed)) {
            return refuse(NO);
        }
        return Boat.paceOf(now.boat.kinds[sail], angle, speed);
    }

    public int sailOf(int sail, int what) {
        if (!isSail(sail)) {
            return refuse(BEYOND);
        }
        switch (what) {
            case 0: return now.boat.kinds[sail];
            case 1: return now.boat.holds(sail);
            case 2: return flag(now.boat.torn[sail]);
            default: return refuse(NO);
        }
    }

    public int taken(int sail, int k) {
        if (!isSail(sail)) {
            return refuse(BEYOND);
        }
        if (!within(k, 0, Boat.KINDS - 1)) {
            return refuse(NO);
        }
        if (!Boat.isUnder(now.boat.kinds[sail], k)) {
            return refuse(KIND);
        }
        return now.boat.holds(sail);
    }

    public int hand() {
        if (now.boat.hands >= HANDS) {
            return refuse(FULL);
        }
        return changing().boat.addHand();
    }

    public int sleep(int hand, int asleep) {
        if (!within(hand, 0, now.boat.hands - 1)) {
            return refuse(BEYOND);
        }
        if (!isFlag(asleep)) {
            return refuse(NO);
        }
        Boat boat = changing().boat;
        boat.rest(hand, asleep == 1);
        return boat.tiredness[hand];
    }

    // ---- rules

    public int feed(int bytes, int n) {
        if (n < 0) {
            return refuse(BELOW);
        }
        if (n > 4) {
            return refuse(NO);
        }
        if (tape.size + n > TAPE) {
            return refuse(FULL);
        }
        for (int i = n - 1; i >= 0; i--) {
            tape.put(bytes >>> 8 * i & 255);
        }
        return tape.size;
    }

    public int wipe() {
        int had = tape.size;
        tape.size = 0;
        return had;
    }

    public int rule(int from, int to) {
        if (from < 0 || to > HOURS || from >= to) {
            return refuse(NO);
        }
        if (now.rules.size >= RULES) {
            return refuse(FULL);
        }
        int fault = tape.fault();
        if (fault != NONE) {
            return -10 - fault;
        }
        int number = changing().rules.add(tape, from, to);
        tape.size = 0;
        return number;
    }

    public int says(int of, int cell, int hour) {
        if (!isAsked(of, cell, hour)) {
            return refuseBy0(BEYOND);
        }
        now.speakOf(cell, now.boat.kinds[of % 10], hour);
        return now.rules.answer(of / 10);
    }

    public int why(int of, int cell, int hour) {
        if (!isAsked(of, cell, hour)) {
            return refuse(BEYOND);
        }
        now.speakOf(cell, now.boat.kinds[of % 10], hour);
        return now.rules.ruling(of / 10);
    }

    // ---- ways

    public int soonest(int wind, int cell, int table) {
        if (!now.boat.isPut) {
            return refuse(MISSING);
        }
        if (!isWind(wind) || !isCell(cell)) {
            return refuse(BEYOND);
        }
        if (!isFlag(table)) {
            return refuse(NO);
        }
        chart.ask();
        chart.draw(wind, table);
        int reached = ways.find(now.boat.state(), now.boat.tick, now.change(), cell);
        return reached == NONE ? NONE : ways.label[reached];
    }

    public int plan(int wind, int cell, int k) {
        if (!now.boat.isPut) {
            return refuse(MISSING);
        }
        if (!isWind(wind) || !isCell(cell)) {
            return refuse(BEYOND);
        }
        if (k < -1) {
            return refuse(NO);
        }
        chart.ask();
        chart.draw(wind, LEARNT);
        int steps = ways.makePlan(now.boat.state(), now.boat.tick, now.change(), cell);
        if (k == -1) {
            return steps;
        }
        return k < steps ? ways.steps[k] : NONE;
    }

    public int telling(int first, int second) {
        if (!isTick(first) || !isTick(second) || second < first) {
            return refuse(NO);
        }
        Log log = changing();
        int was = log.firstTelling;
        log.firstTelling = first;
        log.secondTelling = second;
        return was;
    }

    public int choice(int choice, int cell) {
        if (!within(choice, 0, CHOICES - 1) || !isCell(cell)) {
            return refuse(BEYOND);
        }
        return exchange(changing().choiceCells, choice, cell);
    }

    public int group(int world, int group) {
        if (!isWorld(world)) {
            return refuse(BEYOND);
        }
        if (!within(group, 0, GROUPS - 1)) {
            return refuse(NO);
        }
        return exchange(changing().groups, world, group);
    }

    public int comes(int choices, int world) {
        if (!now.boat.isPut) {
            return refuse(MISSING);
        }
        int first = choices / 10;
        int second = choices % 10;
        if (choices < 0 || first >= CHOICES || second >= CHOICES || !isWorld(world)) {
            return refuse(BEYOND);
        }
        chart.ask();
        return this.choices.comesIn(world, first, second, now.change());
    }

    public long tree(int aim, int what) {
        if (!now.boat.isPut || now.sea.toldWorlds() == 0) {
            return refuse(MISSING);
        }
        if (!within(aim, 0, 2) || !within(what, 0, 5)) {
            return refuse(NO);
        }
        chart.ask();
        choices.workOut(now.change());
        choices.choose(aim, false);
        switch (what) {
            case 0: return choices.first;
            case 1: return choices.worth;
            case 5: return choices.places();
            default: return choices.seconds[what - 2];
        }
    }

    public long worth() {
        if (!now.boat.isPut || now.sea.toldWorlds() == 0) {
            return refuse(MISSING);
        }
        chart.ask();
        choices.workOut(now.change());
        choices.choose(Choices.MEAN, true);
        long untold = choices.worth;
        choices.choose(Choices.MEAN, false);
        return untold - choices.worth;
    }

    public int weight(int world) {
        return isWorld(world) ? now.sea.weightOf(world) : refuse(BEYOND);
    }

    public int rival(int rival, int world, int tick) {
        if (!within(rival, 0, RIVALS - 1) || !isWorld(world)) {
            return refuse(BEYOND);
        }
        if (!within(tick, 0, NEVER)) {
            return refuse(NO);
        }
        return exchange(changing().rivals, world * RIVALS + rival, tick);
    }

    public int game() {
        if (numbersLaid == NONE) {
            return refuseBy0(MISSING);
        }
        if (numbersLaid != 4 && numbersLaid != 9) {
            return refuseBy0(KIND);
        }
        for (int i = 0; i < numbersLaid; i++) {
            if (!within(numbers[i], -999, 999)) {
                return refuseBy0(NO);
            }
        }
        return mixing.sureOf(numbersLaid == 4 ? 2 : 3);
    }

    // ---- the voyage

    public int at(int where, int tick) {
        int cell = where / 100;
        int heading = where / 10 % 10;
        int sail = where % 10;
        if (where < 0 || !isCell(cell) || !isHeading(heading) || !isSail(sail)) {
            return refuse(BEYOND);
        }
        if (now.sea.land[cell]) {
            return refuse(KIND);
        }
        if (now.boat.torn[sail] || !isTick(tick)) {
            return refuse(NO);
        }
        return changing().boat.put(cell, heading, sail, tick);
    }

    public int stay(int n) {
        if (!now.boat.isPut) {
            return refuse(MISSING);
        }
        if (n < 0) {
            return refuse(BELOW);
        }
        if (n == 0 || n > 60) {
            return refuse(NO);
        }
        if (now.boat.tick + n > LAST_TICK) {
            return refuse(FULL);
        }
        changing().pass(n);
        return now.boat.tick;
    }

    public int go(int heading) {
        if (!now.boat.isPut) {
            return refuse(MISSING);
        }
        if (!isHeading(heading)) {
            return refuse(BEYOND);
        }
        int turn = apart(now.boat.heading, heading);
        int step = stepTicksBehind(turn, heading);
        if (step == 0 || now.boat.tick + turn + step > LAST_TICK) {
            return refuse(NO);
        }
        changing().pass(turn + step);
        now.boat.move(heading);
        return now.boat.tick;
    }

    public int raise(int sail) {
        if (!now.boat.isPut) {
            return refuse(MISSING);
        }
        if (!isSail(sail)) {
            return refuse(BEYOND);
        }
        if (sail == now.boat.sail || now.boat.torn[sail]) {
            return refuse(NO);
        }
        int change = now.change();
        if (now.boat.tick + change > LAST_TICK) {
            return refuse(FULL);
        }
        changing().pass(change);
        now.boat.sail = sail;
        return now.boat.tick;
    }

    public int mend(int sail) {
        if (!now.boat.isPut) {
            return refuse(MISSING);
        }
        if (!isSail(sail)) {
            return refuse(BEYOND);
        }
        if (!now.boat.torn[sail]) {
            return refuse(NO);
        }
        if (now.boat.tick + MEND_TICKS > LAST_TICK) {
            return refuse(FULL);
        }
        changing().pass(MEND_TICKS);
        now.boat.torn[sail] = false;
        return now.boat.tick;
    }

    public int boat(int what) {
        if (!now.boat.isPut) {
            return refuse(MISSING);
        }
        switch (what) {
            case 0: return now.boat.cell;
            case 1: return now.boat.heading;
            case 2: return now.boat.sail;
            case 3: return now.boat.tick;
            case 4: return now.change();
            case 5: return now.boat.awake;
            case 6: return now.tiredAwake();
            case 7: return now.boat.tirednessOfAll();
            default: return refuse(NO);
        }
    }

    public int lost(int world, int what) {
        if (!now.boat.isPut) {
            return refuse(MISSING);
        }
        if (!isWorld(world)) {
            return refuse(BEYOND);
        }
        if (!within(what, 0, 4)) {
            return refuse(NO);
        }
        chart.ask();
        losses.workOut(world, now.change());
        switch (what) {
            case 3: return losses.sailed[0];
            case 4: return losses.sailed[Losses.ALL];
            default: return losses.share(1 << what);
        }
    }

    public int count(int what) {
        switch (what) {
            case 0: return now.sea.landCells();
            case 1: return now.sea.toldHours();
            case 2: return now.boat.sails;
            case 3: return now.boat.tornOnes();
            case 4: return now.boat.hands;
            case 5: return now.rules.size;
            case 6: return tape.size;
            case 7: return now.speeds.rowsOfAll();
            case 8: return now.sea.toldWorlds();
            case 9: return now.boat.steps;
            case 10: return now.sea.mark;
            case 11: return flag(now.boat.isPut);
            default: return refuseBy0(NO);
        }
    }

    public int image() {
        kept.take(now);
        isKept = true;
        return now.boat.tick;
    }

    public int back() {
        if (!isKept) {
            return refuse(MISSING);
        }
        changing().take(kept);
        return now.boat.tick;
    }

    // ---- rows

    public int lay(int n) {
        if (n < 0) {
            return refuse(BELOW);
        }
        if (n > ROW) {
            return refuse(NO);
        }
        Arrays.fill(numbers, 0);
        numbersLaid = n;
        return n;
    }

    public int set(int i, int v) {
        if (numbersLaid == NONE) {
            return refuseBy0(MISSING);
        }
        if (!within(i, 0, numbersLaid - 1)) {
            return refuseBy0(BEYOND);
        }
        return exchange(numbers, i, v);
    }

    public int tear() {
        int wasThere = flag(numbersLaid != NONE);
        numbersLaid = NONE;
        return wasThere;
    }

    public int row(int i) {
        if (numbersLaid == NONE) {
            return refuseBy0(MISSING);
        }
        if (!within(i, 0, numbersLaid - 1)) {
            return refuseBy0(BEYOND);
        }
        return numbers[i];
    }

    public int copy(int i, int j, int n) {
        if (numbersLaid == NONE) {
            return refuse(MISSING);
        }
        if (n < 0) {
            return refuse(BELOW);
        }
        // n is taken off rather than added to i, so that no sum can wrap around
        if (n > numbersLaid || !within(i, 0, numbersLaid - n) || !within(j, 0, numbersLaid - n)) {
            return refuse(COPY);
        }
        System.arraycopy(numbers, i, numbers, j, n);
        return n;
    }

    public int status(int by) {
        return within(by, FULL, MISSING) ? refusals[-by] : refuse(NO);
    }

    // ---- what the calls above share

    private int refuse(int by) {
        refusals[-by]++;
        return by;
    }

    private int refuseBy0(int by) {
        refuse(by);
        return 0;
    }

    /** The log for a call that changes it: what was worked out of it before no longer counts. */
    private Log changing() {
        chart.forget();
        choices.forget();
        return now;
    }

    /** How long THE BOAT's STEP would take that begins when a TURN has ended; 0: it can't begin. */
    private int stepTicksBehind(int turn, int heading) {
        Boat boat = now.boat;
        int begin = boat.tick + turn;
        int to = beside(boat.cell, heading);
        if (to == NONE || begin > LAST_TICK || now.tearsBy(begin)) {
            return 0;
        }
        // one STEP needs what RULES say of its two CELLS, not of all the sea
        int hour = hourOf(begin);
        chart.askOf(boat.cell, hour, boat.sail);
        chart.askOf(to, hour, boat.sail);
        chart.draw(TRUTH, LEARNT);
        return chart.stepTicks(boat.cell, heading, boat.sail, hour);
    }

    private boolean isSail(int sail) {
        return within(sail, 0, now.boat.sails - 1);
    }

    private boolean isAsked(int of, int cell, int hour) {
        return within(of, 0, 29) && isSail(of % 10) && isCell(cell) && within(hour, 0, HOURS - 1);
    }

    private static boolean isCell(int cell) {
        return within(cell, 0, CELLS - 1);
    }

    private static boolean isHeading(int heading) {
        return within(heading, 0, HEADINGS - 1);
    }

    private static boolean isWind(int wind) {
        return within(wind, 0, WINDS - 1);
    }

    private static boolean isWorld(int world) {
        return within(world, 0, WORLDS - 1);
    }

    private static boolean isWindOfHour(int of) {
        return of >= 0 && of / 10 < HOURS && of % 10 < WINDS;
    }

    private static boolean isAngle(int angle) {
        return within(angle, 0, ANGLES - 1);
    }

    private static boolean isBand(int band) {
        return within(band, 0, BANDS - 1);
    }

    private static boolean isSpeed(int speed) {
        return within(speed, 0, TOP_SPEED);
    }

    private static boolean isTick(int tick) {
        return within(tick, 0, LAST_TICK);
    }

    private static boolean isFlag(int number) {
        return number == 0 || number == 1;
    }

    private static int flag(boolean is) {
        return is ? 1 : 0;
    }

    private static boolean within(int number, int least, int greatest) {
        return number >= least && number <= greatest;
    }

    private static int exchange(int[] row, int place, int number) {
        int was = row[place];
        row[place] = number;
        return was;
    }

    private static int hourOf(int tick) {
        return tick < LAST_TICK ? tick / HOUR_TICKS : HOURS - 1;
    }

    /** How many eighths two HEADINGS are apart the shorter way. */
    private static int apart(int one, int other) {
        int eighths = Math.abs(one - other);
        return Math.min(eighths, HEADINGS - eighths);
    }

    /** The CELL BESIDE another in a HEADING, or NONE. */
    private static int beside(int cell, int heading) {
        int row = cell / SIDE;
        int column = cell % SIDE;
        if (heading == 7 || heading <= 1) {
            row--;
        } else if (heading >= 3 && heading <= 5) {
            row++;
        }
        if (heading >= 1 && heading <= 3) {
            column++;
        } else if (heading >= 5) {
            column--;
        }
        boolean isThere = within(row, 0, SIDE - 1) && within(column, 0, SIDE - 1);
        return isThere ? row * SIDE + column : NONE;
    }

    private static int stateOf(int cell, int heading, int sail) {
        return SAILS * (HEADINGS * cell + heading) + sail;
    }

    /** THE SEA, THE MARK and all WINDS; a FORCE that is NONE isn't told. */
    private static final class Sea {
        final boolean[] land = new boolean[CELLS];
        final int[] shelter = new int[CELLS];
        final int[] from = new int[WINDS * HOURS];
        final int[] force = new int[WINDS * HOURS];
        int mark = CELLS - 1;

        Sea() {
            Arrays.fill(force, NONE);
        }

        void take(Sea other) {
            System.arraycopy(other.land, 0, land, 0, CELLS);
            System.arraycopy(other.shelter, 0, shelter, 0, CELLS);
            System.arraycopy(other.from, 0, from, 0, WINDS * HOURS);
            System.arraycopy(other.force, 0, force, 0, WINDS * HOURS);
            mark = other.mark;
        }

        boolean isTold(int wind, int hour) {
            return force[wind * HOURS + hour] != NONE;
        }

        /** The place of the HOUR whose telling counts in an HOUR, or NONE. */
        private int lastTold(int wind, int hour) {
            for (int h = hour; h >= 0; h--) {
                if (isTold(wind, h)) {
                    return wind * HOURS + h;
                }
            }
            return NONE;
        }

        int fromIn(int wind, int hour) {
            int place = lastTold(wind, hour);
            return place == NONE ? 0 : from[place];
        }

        int forceIn(int wind, int hour) {
            int place = lastTold(wind, hour);
            return place == NONE ? 0 : force[place];
        }

        int forceAt(int wind, int hour, int cell) {
            return sheltered(forceIn(wind, hour), cell);
        }

        int sheltered(int open, int cell) {
            return open * (100 - shelter[cell]) / 100;
        }

        private int toldHoursOf(int wind) {
            int told = 0;
            for (int hour = 0; hour < HOURS; hour++) {
                told += flag(isTold(wind, hour));
            }
            return told;
        }

        boolean isToldWorld(int world) {
            return toldHoursOf(world) > 0;
        }

        int toldHours() {
            int told = 0;
            for (int wind = 0; wind < WINDS; wind++) {
                told += toldHoursOf(wind);
            }
            return told;
        }

        int toldWorlds() {
            int told = 0;
            for (int world = 0; world < WORLDS; world++) {
                told += flag(isToldWorld(world));
            }
            return told;
        }

        int landCells() {
            int cells = 0;
            for (int cell = 0; cell < CELLS; cell++) {
                cells += flag(land[cell]);
            }
            return cells;
        }

        private int hitsOf(int world) {
            int hits = 0;
            for (int hour = 0; hour < HOURS; hour++) {
                int there = world * HOURS + hour;
                int truly = TRUTH * HOURS + hour;
                if (isTold(world, hour) && isTold(TRUTH, hour)
                        && apart(from[there], from[truly]) <= 1
                        && Math.abs(force[there] - force[truly]) <= 4) {
                    hits++;
                }
            }
            return hits;
        }

        int weightOf(int world) {
            int firstOfHouse = world / 2 * 2;
            return 1 + hitsOf(firstOfHouse) + hitsOf(firstOfHouse + 1);
        }
    }

    /** MAKER's TABLE and what the OWN ROWS teach, each by ANGLE and BAND. */
    private static final class Speeds {
        static final int PLACES = ANGLES * BANDS;
        static final int MOST_ROWS = 99;
        static final int ROWS_THAT_TEACH = 3;

        final int[] makers = new int[PLACES];
        final int[] rows = new int[PLACES];
        final int[] sums = new int[PLACES];
        final int[] least = new int[PLACES];
        final int[] greatest = new int[PLACES];

        Speeds() {
            Arrays.fill(least, NONE);
            Arrays.fill(greatest, NONE);
        }

        void take(Speeds other) {
            System.arraycopy(other.makers, 0, makers, 0, PLACES);
            System.arraycopy(other.rows, 0, rows, 0, PLACES);
            System.arraycopy(other.sums, 0, sums, 0, PLACES);
            System.arraycopy(other.least, 0, least, 0, PLACES);
            System.arraycopy(other.greatest, 0, greatest, 0, PLACES);
        }

        int see(int place, int speed) {
            boolean isFirst = rows[place] == 0;
            least[place] = isFirst ? speed : Math.min(least[place], speed);
            greatest[place] = isFirst ? speed : Math.max(greatest[place], speed);
            sums[place] += speed;
            rows[place]++;
            return rows[place];
        }

        int by(int table, int place) {
            if (table == LEARNT && rows[place] >= ROWS_THAT_TEACH) {
                return sums[place] / rows[place];
            }
            return makers[place];
        }

        int rowsOfAll() {
            int all = 0;
            for (int place = 0; place < PLACES; place++) {
                all += rows[place];
            }
            return all;
        }
    }

    /** THE BOAT, where and when it was put, its SAILS and its HANDS. */
    private static final class Boat {
        static final int KINDS = 5;
        private static final int JIB = 1;
        private static final int STORM = 2;
        private static final int RUNNER = 3;
        private static final int KITE = 4;
        private static final int[] HOLDS = {24, 28, 39, 20, 16};
        private static final int[] UNDER = {-1, 0, 1, 0, 3};

        boolean isPut;
        int cell;
        int heading;
        int sail;
        int tick;
        int steps;
        int firstState;
        int firstTick;
        final int[] kinds = new int[SAILS];
        final boolean[] torn = new boolean[SAILS];
        int sails;
        final int[] tiredness = new int[HANDS];
        private final boolean[] asleep = new boolean[HANDS];
        int hands;
        int awake;

        void take(Boat other) {
            isPut = other.isPut;
            cell = other.cell;
            heading = other.heading;
            sail = other.sail;
            tick = other.tick;
            steps = other.steps;
            firstState = other.firstState;
            firstTick = other.firstTick;
            System.arraycopy(other.kinds, 0, kinds, 0, SAILS);
            System.arraycopy(other.torn, 0, torn, 0, SAILS);
            sails = other.sails;
            System.arraycopy(other.tiredness, 0, tiredness, 0, HANDS);
            System.arraycopy(other.asleep, 0, asleep, 0, HANDS);
            hands = other.hands;
            awake = other.awake;
        }

        int state() {
            return stateOf(cell, heading, sail);
        }

        int put(int inCell, int toHeading, int withSail, int atTick) {
            isPut = true;
            cell = inCell;
            heading = toHeading;
            sail = withSail;
            tick = atTick;
            firstState = state();
            firstTick = atTick;
            return firstState;
        }

        void move(int toHeading) {
            int to = beside(cell, toHeading);
            heading = toHeading;
            cell = to == NONE ? cell : to;
            steps++;
        }

        int addSail(int kind) {
            kinds[sails] = kind;
            torn[sails] = false;
            sails++;
            return sails - 1;
        }

        int holds(int ofSail) {
            return HOLDS[kinds[ofSail]];
        }

        int tornOnes() {
            int ones = 0;
            for (int i = 0; i < sails; i++) {
                ones += flag(torn[i]);
            }
            return ones;
        }

        static boolean isUnder(int kind, int upper) {
            int k = kind;
            for (int level = 0; level < KINDS && k != NONE; level++) {
                if (k == upper) {
                    return true;
                }
                k = UNDER[k];
            }
            return false;
        }

        static int paceOf(int kind, int angle, int speed) {
            int jib = speed * (angle < 3 ? 11 : 9) / 10;
            int runner = angle > 2 ? speed * 12 / 10 : speed / 2;
            switch (kind) {
                case JIB: return jib;
                case STORM: return jib / 2;
                case RUNNER: return runner;
                case KITE: return runner * 13 / 10;
                default: return speed;
            }
        }

        int addHand() {
            tiredness[hands] = 0;
            asleep[hands] = false;
            hands++;
            awake++;
            return hands - 1;
        }

        void rest(int hand, boolean isAsleep) {
            awake += flag(asleep[hand]) - flag(isAsleep);
            asleep[hand] = isAsleep;
        }

        void tire() {
            for (int hand = 0; hand < hands; hand++) {
                int before = tiredness[hand];
                tiredness[hand] = asleep[hand] ? Math.max(0, before - 2) : before + 1;
            }
        }

        int awakeFrom(int leastTiredness) {
            int many = 0;
            for (int hand = 0; hand < hands; hand++) {
                many += flag(!asleep[hand] && tiredness[hand] >= leastTiredness);
            }
            return many;
        }

        int tirednessOfAll() {
            int all = 0;
            for (int hand = 0; hand < hands; hand++) {
                all += tiredness[hand];
            }
            return all;
        }
    }

    /** THE TAPE, and the reading of it as a RULE into a code of what to work one behind the other. */
    private static final class Tape {
        static final int IF = 9;
        static final int OR = 10;
        static final int AND = 11;
        static final int NOT = 12;
        static final int FIRST_NAME = 3;
        static final int LAST_NAME = 8;
        static final int MINUS_OF_ONE = 1;
        /** Codes: a number is itself, a NAME is NAMED less its place, what is worked WORKED less its token. */
        static final int NAMED = -1;
        static final int WORKED = -100;

        private static final String WORDS = "shut gust tired cell row hour sail shelter hands if or and not ";
        private static final String SIGNS = "()+-*/%=<>";
        private static final int END = 128;
        private static final int NUMBER = 129;
        private static final int WRONG = 130;
        private static final int MOST_DIGITS = 5;
        private static final int MOST_OPEN = 6;

        private final int[] bytes = new int[TAPE];
        int size;
        final int[] code = new int[TAPE];
        int codeSize;
        int key;
        int conditionFrom;
        private int place;
        private int end;
        private int token;
        private int value;

        void put(int b) {
            bytes[size] = b;
            size++;
        }

        /** The place of the first TOKEN that can't stand; NONE: THE TAPE is a RULE. */
        int fault() {
            end = 0;
            codeSize = 0;
            advance();
            if (token > TIRED) {
                return place;
            }
            key = token;
            advance();
            if (!readE(0)) {
                return place;
            }
            conditionFrom = codeSize;
            if (token == IF) {
                advance();
                if (!readE(0)) {
                    return place;
                }
            }
            return token == END ? NONE : place;
        }

        private void advance() {
            place = end;
            while (place < size && bytes[place] == ' ') {
                place++;
            }
            end = place;
            if (place == size) {
                token = END;
            } else if (isLetter(bytes[place])) {
                advanceByWord();
            } else if (isDigit(bytes[place])) {
                advanceByNumber();
            } else {
                end = place + 1;
                token = SIGNS.indexOf((char) bytes[place]) >= 0 ? bytes[place] : WRONG;
            }
        }

        private void advanceByWord() {
            while (end < size && isLetter(bytes[end])) {
                end++;
            }
            token = WRONG;
            int word = 0;
            int from = 0;
            for (int i = 0; i < WORDS.length(); i++) {
                if (WORDS.charAt(i) == ' ') {
                    if (i - from == end - place && isSpelt(from)) {
                        token = word;
                        return;
                    }
                    word++;
                    from = i + 1;
                }
            }
        }

        private boolean isSpelt(int from) {
            for (int i = place; i < end; i++) {
                if (bytes[i] != WORDS.charAt(from + i - place)) {
                    return false;
                }
            }
            return true;
        }

        private void advanceByNumber() {
            value = 0;
            while (end < size && isDigit(bytes[end])) {
                value = value * 10 + bytes[end] - '0';
                end++;
            }
            token = end - place > MOST_DIGITS ? WRONG : NUMBER;
        }

        private static boolean isLetter(int b) {
            return b >= 'a' && b <= 'z';
        }

        private static boolean isDigit(int b) {
            return b >= '0' && b <= '9';
        }

        private void write(int step) {
            if (codeSize < TAPE) {
                code[codeSize] = step;
                codeSize++;
            }
        }

        private boolean readE(int open) {
            if (!readAnd(open)) {
                return false;
            }
            for (int n = 0; n < TAPE && token == OR; n++) {
                advance();
                if (!readAnd(open)) {
                    return false;
                }
                write(WORKED - OR);
            }
            return true;
        }

        private boolean readAnd(int open) {
            if (!readNot(open)) {
                return false;
            }
            for (int n = 0; n < TAPE && token == AND; n++) {
                advance();
                if (!readNot(open)) {
                    return false;
                }
                write(WORKED - AND);
            }
            return true;
        }

        private boolean readNot(int open) {
            if (token != NOT) {
                return readComparison(open);
            }
            if (open == MOST_OPEN) {
                return false;
            }
            advance();
            if (!readNot(open + 1)) {
                return false;
            }
            write(WORKED - NOT);
            return true;
        }

        private boolean readComparison(int open) {
            if (!readSum(open)) {
                return false;
            }
            int sign = token;
            if (sign != '=' && sign != '<' && sign != '>') {
                return true;
            }
            advance();
            if (!readSum(open)) {
                return false;
            }
            write(WORKED - sign);
            return true;
        }

        private boolean readSum(int open) {
            if (!readTerm(open)) {
                return false;
            }
            for (int n = 0; n < TAPE && (token == '+' || token == '-'); n++) {
                int sign = token;
                advance();
                if (!readTerm(open)) {
                    return false;
                }
                write(WORKED - sign);
            }
            return true;
        }

        private boolean readTerm(int open) {
            if (!readOne(open)) {
                return false;
            }
            for (int n = 0; n < TAPE && (token == '*' || token == '/' || token == '%'); n++) {
                int sign = token;
                advance();
                if (!readOne(open)) {
                    return false;
                }
                write(WORKED - sign);
            }
            return true;
        }

        private boolean readOne(int open) {
            if (token == NUMBER) {
                write(value);
                advance();
                return true;
            }
            if (token >= FIRST_NAME && token <= LAST_NAME) {
                write(NAMED - (token - FIRST_NAME));
                advance();
                return true;
            }
            if (open == MOST_OPEN || token != '-' && token != '(') {
                return false;
            }
            return token == '-' ? readMinus(open + 1) : readBrackets(open + 1);
        }

        private boolean readMinus(int open) {
            advance();
            if (!readOne(open)) {
                return false;
            }
            write(WORKED - MINUS_OF_ONE);
            return true;
        }

        private boolean readBrackets(int open) {
            advance();
            if (!readE(open) || token != ')') {
                return false;
            }
            advance();
            return true;
        }
    }

    /** The RULES that came, as codes, and the working of these. */
    private static final class Rules {
        private static final int NAMES = Tape.LAST_NAME - Tape.FIRST_NAME + 1;
        private static final int HOUR = 2;
        private static final int[] WITHOUT_RULE = {0, 39, 40};

        private final int[] keys = new int[RULES];
        private final int[] froms = new int[RULES];
        private final int[] tos = new int[RULES];
        private final int[] conditionFroms = new int[RULES];
        private final int[] codeSizes = new int[RULES];
        private final int[] codes = new int[RULES * TAPE];
        int size;
        private final int[] named = new int[NAMES];
        private final int[] stack = new int[TAPE];

        void take(Rules other) {
            System.arraycopy(other.keys, 0, keys, 0, RULES);
            System.arraycopy(other.froms, 0, froms, 0, RULES);
            System.arraycopy(other.tos, 0, tos, 0, RULES);
            System.arraycopy(other.conditionFroms, 0, conditionFroms, 0, RULES);
            System.arraycopy(other.codeSizes, 0, codeSizes, 0, RULES);
            System.arraycopy(other.codes, 0, codes, 0, other.size * TAPE);
            size = other.size;
        }

        int add(Tape tape, int from, int to) {
            keys[size] = tape.key;
            froms[size] = from;
            tos[size] = to;
            conditionFroms[size] = tape.conditionFrom;
            codeSizes[size] = tape.codeSize;
            System.arraycopy(tape.code, 0, codes, size * TAPE, tape.codeSize);
            size++;
            return size - 1;
        }

        void name(int cell, int hour, int kind, int shelter, int awake) {
            named[0] = cell;
            named[1] = cell / SIDE;
            named[HOUR] = hour;
            named[3] = kind;
            named[4] = shelter;
            named[5] = awake;
        }

        /** The RULE that says what a KEY SAYS under the names now given, or NONE. */
        int ruling(int key) {
            int hour = named[HOUR];
            for (int rule = size - 1; rule >= 0; rule--) {
                if (keys[rule] == key && froms[rule] <= hour && hour < tos[rule]) {
                    int from = conditionFroms[rule];
                    int to = codeSizes[rule];
                    if (from == to || work(rule, from, to) != 0) {
                        return rule;
                    }
                }
            }
            return NONE;
        }

        /** What a KEY SAYS under the names now given. */
        int answer(int key) {
            int rule = ruling(key);
            return rule == NONE ? WITHOUT_RULE[key] : work(rule, 0, conditionFroms[rule]);
        }

        private int work(int rule, int from, int to) {
            int top = 0;
            for (int i = from; i < to; i++) {
                int step = codes[rule * TAPE + i];
                if (step > Tape.WORKED) {
                    stack[top] = step >= 0 ? step : named[Tape.NAMED - step];
                    top++;
                } else if (step == Tape.WORKED - Tape.NOT && top > 0) {
                    stack[top - 1] = flag(stack[top - 1] == 0);
                } else if (step == Tape.WORKED - Tape.MINUS_OF_ONE && top > 0) {
                    stack[top - 1] = -stack[top - 1];
                } else if (top > 1) {
                    top--;
                    stack[top - 1] = together(Tape.WORKED - step, stack[top - 1], stack[top]);
                }
            }
            return stack[0];
        }

        private static int together(int token, int left, int right) {
            switch (token) {
                case Tape.OR: return flag(left != 0 || right != 0);
                case Tape.AND: return flag(left != 0 && right != 0);
                case '=': return flag(left == right);
                case '<': return flag(left < right);
                case '>': return flag(left > right);
                case '+': return left + right;
                case '-': return left - right;
                case '*': return left * right;
                case '/': return right == 0 ? 0 : left / right;
                default: return right == 0 ? 0 : left % right;
            }
        }
    }

    /** All that an image keeps, and what several of its parts decide together. */
    private static final class Log {
        final Sea sea = new Sea();
        final Speeds speeds = new Speeds();
        final Boat boat = new Boat();
        final Rules rules = new Rules();
        int firstTelling;
        int secondTelling;
        final int[] choiceCells = new int[CHOICES];
        final int[] groups = new int[WORLDS];
        final int[] rivals = new int[WORLDS * RIVALS];

        Log() {
            Arrays.fill(rivals, NEVER);
        }

        void take(Log other) {
            sea.take(other.sea);
            speeds.take(other.speeds);
            boat.take(other.boat);
            rules.take(other.rules);
            firstTelling = other.firstTelling;
            secondTelling = other.secondTelling;
            System.arraycopy(other.choiceCells, 0, choiceCells, 0, CHOICES);
            System.arraycopy(other.groups, 0, groups, 0, WORLDS);
            System.arraycopy(other.rivals, 0, rivals, 0, WORLDS * RIVALS);
        }

        /** Lets the RULES speak of a CELL and a KIND of SAIL in an HOUR from now on. */
        void speakOf(int cell, int kind, int hour) {
            rules.name(cell, hour, kind, sea.shelter[cell], boat.awake);
        }

        int tiredAwake() {
            speakOf(0, boat.sails > 0 ? boat.kinds[0] : 0, hourOf(boat.tick));
            return boat.awakeFrom(rules.answer(TIRED));
        }

        int change() {
            return boat.awake == 0 ? 9 : RESTED_CHANGE + tiredAwake();
        }

        private boolean tearsIn(int tick) {
            return sea.forceAt(TRUTH, hourOf(tick), boat.cell) > boat.holds(boat.sail);
        }

        /** Whether the SAIL that is up is TORN, or would be by a TICK if THE BOAT kept its CELL. */
        boolean tearsBy(int end) {
            boolean tears = boat.torn[boat.sail];
            for (int tick = boat.tick; tick < end; tick++) {
                tears = tears || tearsIn(tick);
            }
            return tears;
        }

        void pass(int ticks) {
            for (int i = 0; i < ticks; i++) {
                boat.tire();
                if (tearsIn(boat.tick)) {
                    boat.torn[boat.sail] = true;
                }
                boat.tick++;
            }
        }

        /** PLACE in a WORLD of who COMES at a TICK there. */
        int placeOf(int world, int comesThen) {
            int place = 1;
            for (int rival = 0; rival < RIVALS; rival++) {
                place += flag(rivals[world * RIVALS + rival] < comesThen);
            }
            return place;
        }
    }

    /**
     * How long each STEP takes in a WIND by a TABLE. What RULES and SAILS allow is asked for all
     * CELLS at once, since every way through any WIND needs it again and again.
     */
    private static final class Chart {
        private final Log log;
        private final boolean[] closed = new boolean[CELLS * HOURS * SAILS];
        private final int[] mostForce = new int[CELLS * HOURS * SAILS];
        private final int[] forces = new int[CELLS * HOURS];
        private final int[] angles = new int[HOURS * HEADINGS];
        private final int[] paces = new int[SAILS * ANGLES * BANDS];
        final int[] besides = new int[CELLS * HEADINGS];
        private boolean isAsked;
        private int drawn = NONE;

        Chart(Log log) {
            this.log = log;
            for (int i = 0; i < CELLS * HEADINGS; i++) {
                besides[i] = beside(i / HEADINGS, i % HEADINGS);
            }
        }

        void forget() {
            isAsked = false;
            drawn = NONE;
        }

        void ask() {
            if (isAsked) {
                return;
            }
            for (int cell = 0; cell < CELLS; cell++) {
                for (int hour = 0; hour < HOURS; hour++) {
                    for (int sail = 0; sail < log.boat.sails; sail++) {
                        askOf(cell, hour, sail);
                    }
                }
            }
            isAsked = true;
        }

        void askOf(int cell, int hour, int sail) {
            int place = (cell * HOURS + hour) * SAILS + sail;
            log.speakOf(cell, log.boat.kinds[sail], hour);
            closed[place] = log.sea.land[cell] || log.rules.answer(SHUT) != 0;
            mostForce[place] = log.boat.torn[sail] ? NONE
                    : Math.min(log.boat.holds(sail), log.rules.answer(GUST));
        }

        void draw(int wind, int table) {
            if (drawn == 2 * wind + table) {
                return;
            }
            for (int hour = 0; hour < HOURS; hour++) {
                drawWind(wind, hour);
            }
            for (int sail = 0; sail < log.boat.sails; sail++) {
                drawPaces(sail, table);
            }
            drawn = 2 * wind + table;
        }

        private void drawWind(int wind, int hour) {
            int from = log.sea.fromIn(wind, hour);
            for (int heading = 0; heading < HEADINGS; heading++) {
                angles[hour * HEADINGS + heading] = apart(heading, from);
            }
            int open = log.sea.forceIn(wind, hour);
            for (int cell = 0; cell < CELLS; cell++) {
                forces[cell * HOURS + hour] = log.sea.sheltered(open, cell);
            }
        }

        private void drawPaces(int sail, int table) {
            for (int angle = 0; angle < ANGLES; angle++) {
                for (int band = 0; band < BANDS; band++) {
                    int speed = log.speeds.by(table, angle * BANDS + band);
                    paces[(sail * ANGLES + angle) * BANDS + band] =
                            Boat.paceOf(log.boat.kinds[sail], angle, speed);
                }
            }
        }

        /** How many TICKS a STEP takes that begins in an HOUR; 0: it can't begin then. */
        int stepTicks(int cell, int heading, int sail, int hour) {
            int to = besides[cell * HEADINGS + heading];
            if (to == NONE || closed[(to * HOURS + hour) * SAILS + sail]) {
                return 0;
            }
            int force = forces[cell * HOURS + hour];
            if (force > mostForce[(cell * HOURS + hour) * SAILS + sail]) {
                return 0;
            }
            int angle = angles[hour * HEADINGS + heading];
            int pace = paces[(sail * ANGLES + angle) * BANDS + force / 8];
            if (pace <= 0) {
                return 0;
            }
            int miles = heading % 2 == 0 ? 10 : 14;
            return (10 * miles + pace - 1) / pace;
        }

        /** The TICK at which a STEP ends that begins as soon as it may; NEVER, if it can't begin. */
        int endOfNextStep(int cell, int heading, int sail, int tick) {
            for (int hour = hourOf(tick); hour < HOURS; hour++) {
                int ticks = stepTicks(cell, heading, sail, hour);
                if (ticks > 0) {
                    return Math.max(tick, hour * HOUR_TICKS) + ticks;
                }
            }
            return NEVER;
        }

        /** The least TICK at which a STEP can end that begins at a TICK or later, or NEVER. */
        int soonestEnd(int cell, int heading, int sail, int tick) {
            int end = NEVER;
            for (int hour = hourOf(tick); hour < HOURS; hour++) {
                int begin = Math.max(tick, hour * HOUR_TICKS);
                if (begin >= end) {
                    break;
                }
                int ticks = stepTicks(cell, heading, sail, hour);
                if (ticks > 0) {
                    end = Math.min(end, begin + ticks);
                }
            }
            return end;
        }

        /** Whether a STEP that begins at a TICK or later can end just at another. */
        boolean canEndAt(int cell, int heading, int sail, int tick, int end) {
            for (int hour = hourOf(tick); hour < HOURS; hour++) {
                int ticks = stepTicks(cell, heading, sail, hour);
                int begin = end - ticks;
                if (ticks > 0 && begin >= tick && hourOf(begin) == hour) {
                    return true;
                }
            }
            return false;
        }
    }

    /**
     * SOONEST and PLAN in what the chart shows. STATES wait in a list for each TICK, so that they
     * are met in the order of their LABELS and the search can stop at the CELL that is looked for.
     */
    private static final class Ways {
        private final Log log;
        private final Chart chart;
        final int[] label = new int[STATES];
        private final int[] next = new int[STATES];
        private final int[] before = new int[STATES];
        private final int[] heads = new int[LAST_TICK + 1];
        final int[] steps = new int[LAST_TICK + 1];
        private int change;

        Ways(Log log, Chart chart) {
            this.log = log;
            this.chart = chart;
        }

        /** The STATE of a CELL with the least LABEL (of like ones the least number), or NONE. */
        int find(int from, int tick, int changeTicks, int cell) {
            change = changeTicks;
            Arrays.fill(label, NEVER);
            Arrays.fill(heads, NONE);
            lower(from, tick);
            for (int t = tick; t <= LAST_TICK; t++) {
                int reached = labelledIn(cell, t);
                if (reached != NONE) {
                    return reached;
                }
                int state = heads[t];
                for (int n = 0; n < STATES && state != NONE; n++) {
                    spread(state, t);
                    state = next[state];
                }
            }
            return NONE;
        }

        private int labelledIn(int cell, int tick) {
            for (int i = 0; i < CELL_STATES; i++) {
                int state = cell * CELL_STATES + i;
                if (label[state] == tick) {
                    return state;
                }
            }
            return NONE;
        }

        private void spread(int state, int tick) {
            int sail = state % SAILS;
            int heading = state / SAILS % HEADINGS;
            int cell = state / CELL_STATES;
            for (int h = 0; h < HEADINGS; h++) {
                if (h != heading) {
                    lower(stateOf(cell, h, sail), tick + apart(h, heading));
                }
            }
            for (int s = 0; s < log.boat.sails; s++) {
                if (s != sail && !log.boat.torn[s]) {
                    lower(state - sail + s, tick + change);
                }
            }
            int to = chart.besides[cell * HEADINGS + heading];
            if (to != NONE) {
                lower(stateOf(to, heading, sail), chart.soonestEnd(cell, heading, sail, tick));
            }
        }

        private void lower(int state, int tick) {
            if (tick > LAST_TICK || tick >= label[state]) {
                return;
            }
            if (label[state] != NEVER) {
                unlink(state);
            }
            label[state] = tick;
            before[state] = NONE;
            next[state] = heads[tick];
            if (heads[tick] != NONE) {
                before[heads[tick]] = state;
            }
            heads[tick] = state;
        }

        private void unlink(int state) {
            if (before[state] == NONE) {
                heads[label[state]] = next[state];
            } else {
                next[before[state]] = next[state];
            }
            if (next[state] != NONE) {
                before[next[state]] = before[state];
            }
        }

        /** How many STEPS PLAN has, which then stand in steps as 10 * HEADING + SAIL; NONE: no PLAN. */
        int makePlan(int from, int tick, int changeTicks, int cell) {
            int state = find(from, tick, changeTicks, cell);
            if (state == NONE) {
                return NONE;
            }
            int size = 0;
            for (int n = 0; n < LAST_TICK && state != from; n++) {
                int came = cameFrom(state);
                if (came == NONE) {
                    return NONE;
                }
                if (came / CELL_STATES != state / CELL_STATES) {
                    steps[size] = 10 * (state / SAILS % HEADINGS) + state % SAILS;
                    size++;
                }
                state = came;
            }
            turnRound(size);
            return size;
        }

        private void turnRound(int size) {
            for (int i = 0; i < size / 2; i++) {
                steps[size - 1 - i] = exchange(steps, i, steps[size - 1 - i]);
            }
        }

        /** The STATE of the least number from which one ACT ends just at a STATE's LABEL, or NONE. */
        private int cameFrom(int state) {
            int sail = state % SAILS;
            int heading = state / SAILS % HEADINGS;
            int cell = state / CELL_STATES;
            int came = STATES;
            for (int h = 0; h < HEADINGS; h++) {
                int other = stateOf(cell, h, sail);
                if (h != heading && label[other] + apart(h, heading) <= label[state]) {
                    came = Math.min(came, other);
                }
            }
            for (int s = 0; s < SAILS && !log.boat.torn[sail]; s++) {
                int other = state - sail + s;
                if (s != sail && label[other] + change <= label[state]) {
                    came = Math.min(came, other);
                }
            }
            int left = beside(cell, (heading + HEADINGS / 2) % HEADINGS);
            if (left != NONE) {
                int other = stateOf(left, heading, sail);
                if (label[other] < label[state]
                        && chart.canEndAt(left, heading, sail, label[other], label[state])) {
                    came = Math.min(came, other);
                }
            }
            return came == STATES ? NONE : came;
        }
    }

    /** COMES of all CHOICES in all TOLD WORLDS, and TREES of these. */
    private static final class Choices {
        static final int MEAN = 0;
        private static final int WORST = 1;

        private final Log log;
        private final Chart chart;
        private final Ways ways;
        private final int[] comes = new int[WORLDS * CHOICES * CHOICES];
        private final int[] direct = new int[WORLDS];
        private final int[] weights = new int[WORLDS];
        private boolean isWorkedOut;
        int first;
        long worth;
        final int[] seconds = new int[GROUPS];
        private final int[] trial = new int[GROUPS];

        Choices(Log log, Chart chart, Ways ways) {
            this.log = log;
            this.chart = chart;
            this.ways = ways;
        }

        void forget() {
            isWorkedOut = false;
        }

        int comesIn(int world, int c, int q, int change) {
            chart.draw(world, LEARNT);
            int there = ways.find(log.boat.state(), log.boat.tick, change, log.choiceCells[c]);
            return there == NONE ? NEVER : comesFrom(there, ways.label[there], q, change);
        }

        /** COMES of a second CHOICE from where and when the first one has led. */
        private int comesFrom(int from, int tick, int q, int change) {
            int begin = Math.max(tick, log.firstTelling);
            int there = ways.find(from, begin, change, log.choiceCells[q]);
            if (there == NONE) {
                return NEVER;
            }
            begin = Math.max(ways.label[there], log.secondTelling);
            there = ways.find(there, begin, change, log.sea.mark);
            return there == NONE ? NEVER : ways.label[there];
        }

        void workOut(int change) {
            if (isWorkedOut) {
                return;
            }
            for (int world = 0; world < WORLDS; world++) {
                if (log.sea.isToldWorld(world)) {
                    workOutIn(world, change);
                }
            }
            isWorkedOut = true;
        }

        private void workOutIn(int world, int change) {
            Boat boat = log.boat;
            chart.draw(world, LEARNT);
            weights[world] = log.sea.weightOf(world);
            int atMark = ways.find(boat.state(), boat.tick, change, log.sea.mark);
            direct[world] = atMark == NONE ? NEVER : ways.label[atMark];
            for (int c = 0; c < CHOICES; c++) {
                int there = ways.find(boat.state(), boat.tick, change, log.choiceCells[c]);
                int when = there == NONE ? NEVER : ways.label[there];
                for (int q = 0; q < CHOICES; q++) {
                    comes[placeOf(world, c, q)] =
                            there == NONE ? NEVER : comesFrom(there, when, q, change);
                }
            }
        }

        private static int placeOf(int world, int c, int q) {
            return (world * CHOICES + c) * CHOICES + q;
        }

        /** TREE by an AIM, as first, seconds and worth (what the AIM is); asOne: as if all were of GROUP 0. */
        void choose(int aim, boolean asOne) {
            first = NONE;
            for (int c = 0; c < CHOICES; c++) {
                long aimed = tryFirst(aim, c, asOne);
                if (first == NONE || aimed < worth) {
                    first = c;
                    worth = aimed;
                    System.arraycopy(trial, 0, seconds, 0, GROUPS);
                }
            }
        }

        /** What an AIM is by a first CHOICE; the best second ones stand in trial then. */
        private long tryFirst(int aim, int c, boolean asOne) {
            long all = 0;
            for (int group = 0; group < GROUPS; group++) {
                trial[group] = NONE;
                long least = NONE;
                for (int q = 0; q < CHOICES; q++) {
                    long aimed = aimOf(aim, c, q, group, asOne);
                    if (aimed != NONE && (trial[group] == NONE || aimed < least)) {
                        trial[group] = q;
                        least = aimed;
                    }
                }
                if (trial[group] != NONE) {
                    all = aim == MEAN ? all + least : Math.max(all, least);
                }
            }
            return all;
        }

        /** What an AIM is of the TOLD WORLDS of a GROUP; NONE: it has none. */
        private long aimOf(int aim, int c, int q, int group, boolean asOne) {
            long aimed = NONE;
            for (int world = 0; world < WORLDS; world++) {
                int groupOf = asOne ? 0 : log.groups[world];
                if (groupOf == group && log.sea.isToldWorld(world)) {
                    int comesThen = comes[placeOf(world, c, q)];
                    if (aim == MEAN) {
                        aimed = Math.max(0, aimed) + (long) weights[world] * comesThen;
                    } else {
                        int behind = aim == WORST ? 0 : direct[world];
                        aimed = Math.max(aimed, comesThen - behind);
                    }
                }
            }
            return aimed;
        }

        /** PLACES times WEIGHTS together by the TREE that was chosen. */
        long places() {
            long all = 0;
            for (int world = 0; world < WORLDS; world++) {
                int q = seconds[log.groups[world]];
                if (q != NONE && log.sea.isToldWorld(world)) {
                    int comesThen = comes[placeOf(world, first, q)];
                    all += (long) weights[world] * log.placeOf(world, comesThen);
                }
            }
            return all;
        }
    }

    /** LOST: what SAILED is for each set of three that are put right. */
    private static final class Losses {
        static final int ALL = 7;
        private static final int WINDS_RIGHT = 1;
        private static final int TABLE_RIGHT = 2;
        private static final int HANDS_RIGHT = 4;
        private static final int SETS = 8;
        private static final int PLAN_SIZE = LAST_TICK + 1;

        private final Log log;
        private final Chart chart;
        private final Ways ways;
        private final int[] plans = new int[SETS * PLAN_SIZE];
        private final int[] planSizes = new int[SETS];
        final int[] sailed = new int[SETS];

        Losses(Log log, Chart chart, Ways ways) {
            this.log = log;
            this.chart = chart;
            this.ways = ways;
        }

        void workOut(int world, int change) {
            for (int set = 0; set < HANDS_RIGHT; set++) {
                chart.draw((set & WINDS_RIGHT) != 0 ? TRUTH : world,
                        (set & TABLE_RIGHT) != 0 ? LEARNT : MAKERS);
                keepPlan(set, change);
                keepPlan(set | HANDS_RIGHT, RESTED_CHANGE);
            }
            chart.draw(TRUTH, LEARNT);
            for (int set = 0; set < SETS; set++) {
                sailed[set] = sailPlan(set, (set & HANDS_RIGHT) != 0 ? RESTED_CHANGE : change);
            }
        }

        private void keepPlan(int set, int change) {
            int size = ways.makePlan(log.boat.firstState, log.boat.firstTick, change, log.sea.mark);
            planSizes[set] = size;
            if (size > 0) {
                System.arraycopy(ways.steps, 0, plans, set * PLAN_SIZE, size);
            }
        }

        private int sailPlan(int set, int change) {
            if (planSizes[set] == NONE) {
                return NEVER;
            }
            int sail = log.boat.firstState % SAILS;
            int heading = log.boat.firstState / SAILS % HEADINGS;
            int cell = log.boat.firstState / CELL_STATES;
            int tick = log.boat.firstTick;
            for (int k = 0; k < planSizes[set]; k++) {
                int step = plans[set * PLAN_SIZE + k];
                tick += apart(heading, step / 10);
                tick += sail == step % 10 ? 0 : change;
                heading = step / 10;
                sail = step % 10;
                tick = chart.endOfNextStep(cell, heading, sail, tick);
                cell = beside(cell, heading);
                if (tick > LAST_TICK || cell == NONE) {
                    return NEVER;
                }
            }
            return tick;
        }

        /** SHARE of one of three: two orders have it first, two last, and one behind each other one. */
        int share(int right) {
            int together = 0;
            for (int set = 0; set < SETS; set++) {
                if ((set & right) == 0) {
                    int orders = Integer.bitCount(set) == 1 ? 1 : 2;
                    together += orders * (sailed[set] - sailed[set | right]);
                }
            }
            return together;
        }
    }

    /**
     * What can be sure in a game. A best mix of rows makes the columns of some square part of the
     * game alike (or is one row), so it is enough to try the mixes of all square parts.
     */
    private static final class Game {
        private static final long LESS_THAN_ANY = -1000000;

        private final int[] pays;
        private final long[] mix = new long[3];
        private int side;
        private long surest;

        Game(int[] pays) {
            this.pays = pays;
        }

        int sureOf(int rows) {
            side = rows;
            surest = LESS_THAN_ANY;
            for (int one = 0; one < side; one++) {
                mixOf(one, 1, one, 0);
                for (int other = 0; other < one; other++) {
                    tryTwoRows(one, other);
                }
            }
            if (side == 3) {
                tryThreeRows();
            }
            return (int) surest;
        }

        private int pay(int row, int column) {
            return pays[row * side + column];
        }

        private void tryTwoRows(int one, int other) {
            for (int left = 0; left < side; left++) {
                for (int right = 0; right < left; right++) {
                    mixOf(one, pay(other, right) - pay(other, left),
                            other, pay(one, left) - pay(one, right));
                }
            }
        }

        private void mixOf(int one, long much, int other, long muchOther) {
            Arrays.fill(mix, 0);
            mix[other] = muchOther;
            mix[one] = much;
            tryMix();
        }

        private void tryThreeRows() {
            for (int row = 0; row < 3; row++) {
                mix[row] = 0;
                for (int column = 0; column < 3; column++) {
                    mix[row] += without(row, column);
                }
            }
            tryMix();
        }

        /** The signed determinant of the game without a row and a column. */
        private long without(int row, int column) {
            int below = (row + 1) % 3;
            int above = (row + 2) % 3;
            int right = (column + 1) % 3;
            int left = (column + 2) % 3;
            return (long) pay(below, right) * pay(above, left) - (long) pay(below, left) * pay(above, right);
        }

        private void tryMix() {
            long all = mix[0] + mix[1] + mix[2];
            int sign = all < 0 ? -1 : 1;
            if (all == 0 || sign * mix[0] < 0 || sign * mix[1] < 0 || sign * mix[2] < 0) {
                return;
            }
            long worst = 0;
            for (int column = 0; column < side; column++) {
                long paid = 0;
                for (int row = 0; row < side; row++) {
                    paid += sign * mix[row] * pay(row, column);
                }
                worst = column == 0 ? paid : Math.min(worst, paid);
            }
            surest = Math.max(surest, Math.floorDiv(1000 * worst, sign * all));
        }
    }
}
