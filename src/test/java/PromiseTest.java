/**
 * For each promise of the document some calls whose answers were worked out by hand: ordinary
 * ones, the edges that the document names, and wrong ones in the order of their refusals.
 */
public final class PromiseTest {
    private static final int NONE = -1, MISSING = -2, BEYOND = -3, BELOW = -4, KIND = -5, COPY = -6, NO = -7, FULL = -8;
    private static int wrong = 0;
    private static int promise = 0;

    private static void due(long got, long want, String what) {
        if (got != want) {
            wrong++;
            System.out.println("promise " + promise + ": " + what + " answered " + got + ", due is " + want);
        }
    }

    private static void type(WindBoat x, String text) {
        for (int i = 0; i < text.length(); i++) x.feed(text.charAt(i), 1);
    }

    /** The tape is wiped, a text is typed and read as a rule for all hours. */
    private static int rule(WindBoat x, String text) {
        x.wipe();
        type(x, text);
        return x.rule(0, 12);
    }

    /** One sail of kind SAIL, SPEED 50 but into the wind, all winds from above (0) with FORCE 16: steps take 2 or 3 TICKS. */
    private static WindBoat calm() {
        WindBoat x = new WindBoat();
        x.sail(0);
        for (int a = 1; a < 5; a++) for (int b = 0; b < 5; b++) x.speed(a, b, 50);
        for (int w = 0; w < 7; w++) x.wind(w, 0, 16);
        return x;
    }

    /** The same, put into CELL 0 with HEADING 4 at TICK 0. */
    private static WindBoat afloat() {
        WindBoat x = calm();
        x.at(40, 0);
        return x;
    }

    public static void main(String[] args) {
        newObject();
        sea();
        tables();
        sails();
        hands();
        tape();
        faults();
        says();
        why();
        soonest();
        plan();
        races();
        trees();
        weightsAndRivals();
        game();
        at();
        stay();
        go();
        raise();
        mend();
        boat();
        lost();
        count();
        images();
        rows();
        status();
        System.out.println(wrong == 0 ? "all promises are kept" : wrong + " answers are not as due");
        if (wrong != 0) System.exit(1);
    }

    private static void newObject() {
        promise = 1;
        WindBoat x = new WindBoat();
        for (int what = 0; what < 12; what++) due(x.count(what), what == 10 ? 35 : 0, "count(" + what + ")");
        for (int by = -8; by <= -2; by++) due(x.status(by), 0, "status(" + by + ")");
        due(x.wipe(), 0, "wipe()");
        due(x.tear(), 0, "tear()");
        due(x.boat(0), MISSING, "boat(0)");
        due(x.back(), MISSING, "back()");
        due(x.image(), 0, "image()");
        for (int what = 0; what < 4; what++) due(x.blows(116, 35, what), 0, "blows(116, 35, " + what + ")");
        due(x.table(4, 4, 1), 0, "table(4, 4, 1)");
        due(x.telling(0, 0), 0, "telling(0, 0)");
        for (int c = 0; c < 3; c++) due(x.choice(c, 1), 0, "choice");
        for (int w = 0; w < 6; w++) due(x.group(w, 1), 0, "group");
        for (int r = 0; r < 6; r++) due(x.rival(r, 5 - r, 1), 999, "rival");
        due(x.weight(3), 1, "weight(3)");
    }

    private static void sea() {
        promise = 2;
        WindBoat x = new WindBoat();
        due(x.cell(35, 1, 90), 0, "cell(35, 1, 90)");
        due(x.cell(35, 1, 0), 1, "cell(35, 1, 0) again");
        due(x.cell(35, 0, 0), 1, "cell(35, 0, 0)");
        due(x.cell(35, 0, 0), 0, "cell(35, 0, 0) again");
        due(x.cell(36, 2, 0), BEYOND, "cell(36, 2, 0)");
        due(x.cell(-1, 0, 0), BEYOND, "cell(-1, 0, 0)");
        due(x.cell(0, 2, 0), NO, "cell(0, 2, 0)");
        due(x.cell(0, -1, 0), NO, "cell(0, -1, 0)");
        due(x.cell(0, 1, 91), NO, "cell(0, 1, 91)");
        due(x.cell(0, 1, -1), NO, "cell(0, 1, -1)");
        due(x.count(0), 0, "count(0) behind refusals");

        promise = 3;
        due(x.wind(30, 7, 39), NONE, "wind(30, 7, 39)");
        due(x.wind(30, 0, 0), 39, "wind(30, 0, 0)");
        due(x.wind(30, 3, 20), 0, "wind(30, 3, 20)");
        due(x.wind(116, 0, 5), NONE, "wind(116, 0, 5)");
        due(x.wind(117, 8, 40), BEYOND, "wind(117, 8, 40)");
        due(x.wind(120, 0, 1), BEYOND, "wind(120, 0, 1)");
        due(x.wind(-1, 0, 1), BEYOND, "wind(-1, 0, 1)");
        due(x.wind(Integer.MIN_VALUE, 0, 1), BEYOND, "wind of the least number");
        due(x.wind(0, 8, 1), NO, "wind(0, 8, 1)");
        due(x.wind(0, -1, 1), NO, "wind(0, -1, 1)");
        due(x.wind(0, 0, 40), NO, "wind(0, 0, 40)");
        due(x.wind(0, 0, -1), NO, "wind(0, 0, -1)");
        due(x.count(1), 2, "count(1)");

        promise = 4;
        x.cell(9, 0, 90);
        x.cell(10, 0, 50);
        x.wind(70, 6, 39);
        due(x.blows(20, 9, 0), 0, "FROM ahead of the first telling");
        due(x.blows(20, 9, 1), 0, "FORCE ahead of the first telling");
        due(x.blows(60, 10, 0), 3, "FROM as in the last telling");
        due(x.blows(60, 10, 1), 20, "FORCE as in the last telling");
        due(x.blows(60, 10, 2), 10, "FORCE by half a SHELTER");
        due(x.blows(60, 10, 3), 0, "an HOUR that isn't told");
        due(x.blows(70, 9, 2), 3, "FORCE 39 by SHELTER 90, cut");
        due(x.blows(70, 9, 3), 1, "an HOUR that is told");
        due(x.blows(110, 0, 0), 6, "FROM in the last HOUR");
        due(x.blows(7, 0, 4), BEYOND, "blows(7, 0, 4)");
        due(x.blows(0, 36, 4), BEYOND, "blows(0, 36, 4)");
        due(x.blows(0, -1, 0), BEYOND, "blows(0, -1, 0)");
        due(x.blows(-10, 0, 0), BEYOND, "blows(-10, 0, 0)");
        due(x.blows(0, 0, 4), NO, "blows(0, 0, 4)");
        due(x.blows(0, 0, -1), NO, "blows(0, 0, -1)");

        promise = 5;
        due(x.mark(0), 35, "mark(0)");
        due(x.mark(36), BEYOND, "mark(36)");
        due(x.mark(-1), BEYOND, "mark(-1)");
        due(x.mark(35), 0, "mark(35)");
    }

    private static void tables() {
        promise = 6;
        WindBoat x = new WindBoat();
        due(x.speed(4, 4, 99), 0, "speed(4, 4, 99)");
        due(x.speed(4, 4, 0), 99, "speed(4, 4, 0)");
        due(x.speed(5, 0, 100), BEYOND, "speed(5, 0, 100)");
        due(x.speed(0, 5, 0), BEYOND, "speed(0, 5, 0)");
        due(x.speed(-1, 0, 0), BEYOND, "speed(-1, 0, 0)");
        due(x.speed(0, -1, 0), BEYOND, "speed(0, -1, 0)");
        due(x.speed(0, 0, 100), NO, "speed(0, 0, 100)");
        due(x.speed(0, 0, -1), NO, "speed(0, 0, -1)");

        promise = 7;
        x.speed(1, 2, 40);
        due(x.learn(1, 2, 9), 1, "the first OWN ROW");
        due(x.learn(1, 2, 3), 2, "the second OWN ROW");

        promise = 8;
        due(x.table(1, 2, 0), 40, "MAKER's");
        due(x.table(1, 2, 1), 40, "LEARNT by two rows");
        x.learn(1, 2, 11);
        due(x.table(1, 2, 0), 40, "MAKER's behind rows");
        due(x.table(1, 2, 1), 7, "LEARNT by three rows, cut");
        due(x.table(1, 2, 2), 3, "how many rows");
        due(x.table(1, 2, 3), 3, "the least row");
        due(x.table(1, 2, 4), 11, "the greatest row");
        due(x.table(2, 1, 2), 0, "rows elsewhere");
        due(x.table(2, 1, 3), NONE, "the least of none");
        due(x.table(2, 1, 4), NONE, "the greatest of none");
        due(x.table(5, 0, 5), BEYOND, "table(5, 0, 5)");
        due(x.table(0, 5, 0), BEYOND, "table(0, 5, 0)");
        due(x.table(0, 0, 5), NO, "table(0, 0, 5)");
        due(x.table(0, 0, -1), NO, "table(0, 0, -1)");

        promise = 7;
        for (int i = 4; i <= 99; i++) due(x.learn(1, 2, 0), i, "OWN ROW " + i);
        due(x.learn(1, 2, 0), FULL, "row 100");
        due(x.learn(1, 2, 100), NO, "row 100, of no SPEED");
        due(x.learn(5, 2, 100), BEYOND, "learn(5, 2, 100)");
        due(x.learn(0, -1, 0), BEYOND, "learn(0, -1, 0)");
        due(x.learn(0, 0, -1), NO, "learn(0, 0, -1)");
        due(x.table(1, 2, 2), 99, "rows behind a refusal");
        due(x.table(1, 2, 1), 0, "23 by 99, cut");
        due(x.count(7), 99, "count(7)");
    }

    private static void sails() {
        promise = 9;
        WindBoat x = new WindBoat();
        due(x.sail(5), NO, "sail(5)");
        due(x.sail(-1), NO, "sail(-1)");
        due(x.sail(2), 0, "sail(2)");
        due(x.sail(2), 1, "sail(2) again");
        due(x.sail(4), 2, "sail(4)");
        due(x.sail(0), FULL, "sail(0)");
        due(x.sail(5), NO, "sail(5) when there are three");

        promise = 10;
        int[][] paces = {{9, 9}, {9, 8}, {4, 4}, {4, 10}, {5, 13}};
        int[] holds = {24, 28, 39, 20, 16};
        for (int kind = 0; kind < 5; kind++) {
            WindBoat y = new WindBoat();
            y.sail(kind);
            for (int angle = 0; angle < 5; angle++) due(y.pace(0, angle, 9), paces[kind][angle / 3], "pace of KIND " + kind + " at " + angle);
            due(y.pace(0, 4, 0), 0, "pace of 0");
            due(y.sailOf(0, 0), kind, "KIND");
            due(y.sailOf(0, 1), holds[kind], "HOLDS");
            due(y.sailOf(0, 2), 0, "TORN");
        }
        due(x.pace(2, 4, 99), 153, "the greatest pace: 118 * 13 / 10");
        due(x.pace(3, 0, 100), BEYOND, "pace(3, 0, 100)");
        due(x.pace(0, 5, 100), BEYOND, "pace(0, 5, 100)");
        due(x.pace(-1, 0, 0), BEYOND, "pace(-1, 0, 0)");
        due(x.pace(0, 0, 100), NO, "pace(0, 0, 100)");
        due(x.pace(0, 0, -1), NO, "pace(0, 0, -1)");

        promise = 11;
        due(x.sailOf(3, 3), BEYOND, "sailOf(3, 3)");
        due(x.sailOf(-1, 0), BEYOND, "sailOf(-1, 0)");
        due(x.sailOf(0, 3), NO, "sailOf(0, 3)");
        due(x.sailOf(0, -1), NO, "sailOf(0, -1)");

        promise = 12;
        boolean[][] under = {{true, false, false, false, false}, {true, true, false, false, false}, {true, true, true, false, false},
            {true, false, false, true, false}, {true, false, false, true, true}};
        for (int kind = 0; kind < 5; kind++) {
            WindBoat y = new WindBoat();
            y.sail(kind);
            for (int k = 0; k < 5; k++) due(y.taken(0, k), under[kind][k] ? holds[kind] : KIND, "KIND " + kind + " taken for " + k);
        }
        due(x.taken(3, 5), BEYOND, "taken(3, 5)");
        due(x.taken(0, 5), NO, "taken(0, 5)");
        due(x.taken(0, -1), NO, "taken(0, -1)");
    }

    private static void hands() {
        promise = 13;
        WindBoat x = new WindBoat();
        for (int i = 0; i < 8; i++) due(x.hand(), i, "hand " + i);
        due(x.hand(), FULL, "hand 8");
        due(x.count(4), 8, "count(4)");

        promise = 14;
        x = afloat();
        due(x.sleep(0, 2), BEYOND, "sleep(0, 2) without hands");
        x.hand();
        due(x.sleep(1, 0), BEYOND, "sleep(1, 0)");
        due(x.sleep(-1, 0), BEYOND, "sleep(-1, 0)");
        due(x.sleep(0, 2), NO, "sleep(0, 2)");
        due(x.sleep(0, -1), NO, "sleep(0, -1)");
        x.stay(5);
        due(x.sleep(0, 1), 5, "5 TICKS awake");
        x.stay(1);
        due(x.sleep(0, 1), 3, "a TICK asleep");
        x.stay(2);
        due(x.sleep(0, 0), 0, "not below 0");
        x.stay(1);
        due(x.sleep(0, 0), 1, "awake again");
    }

    private static void tape() {
        promise = 15;
        WindBoat x = new WindBoat();
        due(x.feed(0x67757374, 4), 4, "gust");
        due(x.feed(0x7F7F2031, 2), 6, "the two lowest bytes");
        due(x.feed(-1, 0), 6, "no byte");
        due(x.rule(0, 12), 0, "gust 1 read");
        due(x.feed(0, -1), BELOW, "feed(0, -1)");
        due(x.feed(0, 5), NO, "feed(0, 5)");
        for (int i = 1; i <= 29; i++) due(x.feed(0x20202020, 4), 4 * i, "blanks");
        due(x.feed(0, 3), 119, "119 bytes");
        due(x.feed(0, 2), FULL, "2 bytes where there is room for 1");
        due(x.feed(0, 1), 120, "120 bytes");
        due(x.feed(0, 1), FULL, "a byte more");
        due(x.feed(0, 5), NO, "feed(0, 5) on a full tape");
        due(x.feed(0, 0), 120, "feed(0, 0) on a full tape");

        promise = 16;
        due(x.wipe(), 120, "wipe()");
        due(x.wipe(), 0, "wipe() again");

        promise = 17;
        type(x, "shut 1");
        due(x.rule(0, 13), NO, "rule(0, 13)");
        due(x.rule(-1, 5), NO, "rule(-1, 5)");
        due(x.rule(5, 5), NO, "rule(5, 5)");
        due(x.rule(12, 12), NO, "rule(12, 12)");
        due(x.count(6), 6, "the tape stays");
        due(x.rule(11, 12), 1, "rule(11, 12)");
        due(x.count(6), 0, "the tape is empty then");
        for (int i = 2; i < 12; i++) due(rule(x, "tired 9"), i, "rule " + i);
        due(rule(x, "tired 9"), FULL, "rule 12");
        due(x.rule(3, 3), NO, "NO ahead of FULL");
        due(rule(x, "oops"), FULL, "FULL ahead of a FAULT");
        due(x.count(6), 4, "the tape stays when it is FULL");
    }

    private static void fault(String text, int place) {
        WindBoat x = new WindBoat();
        type(x, text);
        due(x.rule(0, 12), place == NONE ? 0 : -10 - place, "rule '" + text + "'");
        due(x.count(6), place == NONE ? 0 : text.length(), "bytes behind rule '" + text + "'");
        for (int by = -8; by <= -2; by++) due(x.status(by), 0, "status behind rule '" + text + "'");
    }

    private static void faults() {
        promise = 17;
        fault("", 0);
        fault("   ", 3);
        fault("shut", 4);
        fault("shut  ", 6);
        fault("  gust 5  ", NONE);
        fault("gust5if1", NONE);
        fault("shut cell row", 10);
        fault("cell 1", 0);
        fault("Shut 1", 0);
        fault("shuts 1", 0);
        fault("shutz 1", 0);
        fault("gust cella", 5);
        fault("gust zcell", 5);
        fault("gust 19cell", 7);
        fault("shut shut", 5);
        fault("shut 1 if", 9);
        fault("shut 1 if 2 if 3", 12);
        fault("shut if 1", 5);
        fault("shut (1 if 2)", 8);
        fault("gust 99999", NONE);
        fault("gust 100000", 5);
        fault("gust 000001", 5);
        fault("gust 1 + 123456", 9);
        fault("gust 1 = 2 = 3", 11);
        fault("gust 1 = (2 = 3)", NONE);
        fault("gust (1 = 2) < 3 > 4", 17);
        fault("gust 1 < 2 and 3 > 4 or 5 = 6", NONE);
        fault("gust not 1 = 2", NONE);
        fault("gust 1 = not 2", 9);
        fault("gust 1 + not 2", 9);
        fault("gust - not 2", 7);
        fault("gust not", 8);
        fault("gust 1 not 2", 7);
        fault("gust 1 2", 7);
        fault("gust (1", 7);
        fault("gust (1))", 8);
        fault("gust )", 5);
        fault("gust ()", 6);
        fault("gust * 2", 5);
        fault("gust 2 *", 8);
        fault("gust 2 * / 3", 9);
        fault("gust 1 and", 10);
        fault("gust and 1", 5);
        fault("gust 1 , 2", 7);
        fault("gust 1\t2", 6);
        fault("gust 1 _", 7);
        fault("gust \u00e9", 5);
        fault("gust knots", 5);
        fault("gust 1 andnot 2", 7);
        fault("gust ((((((1))))))", NONE);
        fault("gust (((((((1)))))))", 11);
        fault("gust ------1", NONE);
        fault("gust -------1", 11);
        fault("gust not not not not not not 1", NONE);
        fault("gust not not not not not not not 1", 29);
        fault("gust (not -(not -1)) - -((((((1", 29);
        fault("gust -1 - -1 - -1 - -1 - -1 - -1 - -1 - -1", NONE);
        fault("gust not 1 and not 1 and not 1 and not 1 and not 1 and not 1 and not 1", NONE);
        fault("gust not (((((1))))) and ((((((1))))))", NONE);
        fault("gust not 1 = ((((((1))))))", 18);
        fault("gust -(((((1))))) * ((((((1))))))", NONE);
        fault("gust 1 if ((((((hands))))))", NONE);
        fault("gust 1 if not ((((((hands))))))", 19);
        fault("tired cell+row-hour*sail/shelter%hands=0<", 40);
    }

    private static void say(String e, int want) {
        WindBoat x = new WindBoat();
        x.sail(1);
        x.sail(4);
        x.hand();
        x.hand();
        x.sleep(0, 1);
        x.cell(20, 0, 30);
        due(rule(x, "tired " + e), 0, "rule 'tired " + e + "'");
        due(x.says(21, 20, 7), want, "'" + e + "'");
    }

    private static void says() {
        promise = 18;
        say("cell", 20);
        say("row", 3);
        say("hour", 7);
        say("sail", 4);
        say("shelter", 30);
        say("hands", 1);
        say("1+2*3", 7);
        say("(1+2)*3", 9);
        say("9-3-2", 4);
        say("100/7/2", 7);
        say("-7/2", -3);
        say("-7%4", -3);
        say("7/0", 0);
        say("7%0", 0);
        say("7/(1-1)+5%(2-2)+1", 1);
        say("-2*3", -6);
        say("2*-3", -6);
        say("1--1", 2);
        say("99999*99999", 1409865409);
        say("99999*99999*99999", -1465423905);
        say("-(99999*21475)", -(99999 * 21475));
        say("not 5", 0);
        say("not 0", 1);
        say("not not 5", 1);
        say("not 1 = 0", 1);
        say("not 1 + 1", 0);
        say("3 and 4", 1);
        say("3 and 0", 0);
        say("0 or 8", 1);
        say("0 or 0", 0);
        say("1 or 0 and 0", 1);
        say("0 and 0 or 1", 1);
        say("not 0 and 0", 0);
        say("2 < 3", 1);
        say("3 < 3", 0);
        say("3 > 2", 1);
        say("3 = 3", 1);
        say("1+1 = 2*1", 1);
        say("5 if cell = 20", 5);
        say("5 if cell = 21", 40);
        say("5 if 0-3", 5);

        WindBoat x = new WindBoat();
        due(x.says(0, 0, 0), 0, "says without sails");
        due(x.status(-3), 1, "status(-3)");
        x.sail(0);
        due(x.says(0, 0, 0), 0, "shut without a rule");
        due(x.says(10, 35, 11), 39, "gust without a rule");
        due(x.says(20, 0, 0), 40, "tired without a rule");
        type(x, "gust 3");
        x.rule(2, 4);
        due(x.says(10, 0, 1), 39, "an hour ahead of the rule's");
        due(x.says(10, 0, 2), 3, "the first hour of the rule's");
        due(x.says(10, 0, 3), 3, "the last hour of the rule's");
        due(x.says(10, 0, 4), 39, "an hour behind the rule's");
        due(x.status(-3), 1, "status(-3) still");
        int[][] beyond = {{30, 0, 0}, {1, 0, 0}, {-1, 0, 0}, {0, 36, 0}, {0, -1, 0}, {0, 0, 12}, {0, 0, -1}};
        for (int[] b : beyond) due(x.says(b[0], b[1], b[2]), 0, "says beyond");
        due(x.status(-3), 8, "status(-3) behind all these");
    }

    private static void why() {
        promise = 19;
        WindBoat x = new WindBoat();
        x.sail(3);
        due(x.why(0, 0, 0), NONE, "why without a rule");
        rule(x, "shut 1");
        rule(x, "shut 2 if cell > 5");
        rule(x, "gust 7");
        rule(x, "shut 0 if row = 2");
        due(x.why(0, 5, 0), 0, "the only one in force");
        due(x.why(0, 6, 0), 1, "the greater number of two");
        due(x.why(0, 12, 0), 3, "the greatest number of three");
        due(x.says(0, 12, 0), 0, "which says 0");
        due(x.says(0, 6, 0), 2, "the one of the greater number says 2");
        due(x.why(10, 0, 0), 2, "another key");
        due(x.why(20, 0, 0), NONE, "a key without a rule");
        int[][] beyond = {{30, 0, 0}, {1, 0, 0}, {-1, 0, 0}, {0, 36, 0}, {0, -1, 0}, {0, 0, 12}, {0, 0, -1}};
        for (int[] b : beyond) due(x.why(b[0], b[1], b[2]), BEYOND, "why beyond");
    }

    private static void soonest() {
        promise = 20;
        WindBoat x = calm();
        due(x.soonest(7, 36, 2), MISSING, "soonest ahead of at");
        x.at(40, 0);
        due(x.soonest(7, 0, 2), BEYOND, "soonest(7, 0, 2)");
        due(x.soonest(0, 36, 2), BEYOND, "soonest(0, 36, 2)");
        due(x.soonest(-1, 0, 0), BEYOND, "soonest(-1, 0, 0)");
        due(x.soonest(0, 0, 2), NO, "soonest(0, 0, 2)");
        due(x.soonest(0, 0, 1), 0, "where it is");
        due(x.soonest(0, 6, 1), 2, "a step");
        due(x.soonest(0, 1, 1), 4, "a turn of 2 and a step");
        due(x.soonest(0, 7, 1), 4, "a turn of 1 and a step by an odd HEADING");
        due(x.soonest(0, 13, 1), 6, "two steps with a turn between");
        due(x.soonest(0, 35, 1), 16, "across the sea");
        x.at(3500 + 40, 0);
        due(x.soonest(0, 29, 1), 2 + 2 + 3 + 3, "to windward by two legs: to 34 (HEADING 6), then HEADING 1");
        x.at(40, 117);
        due(x.soonest(0, 6, 1), 119, "just in time");
        due(x.soonest(0, 7, 1), NONE, "not by TICK 120");
        x.at(30, 117);
        due(x.soonest(0, 7, 1), 120, "just at TICK 120");

        x = afloat();
        x.cell(7, 1, 0);
        due(x.soonest(0, 7, 1), NONE, "LAND");
        x.cell(6, 0, 90);
        due(x.soonest(0, 12, 1), 4, "a shelter with the same SPEED");
        x.speed(4, 0, 4);
        due(x.soonest(0, 12, 1), 2 + 1 + 3 + 3 + 2, "round the slow way out of the shelter: 6, 13 (HEADING 3), 12 (HEADING 6)");
        x.learn(4, 2, 25);
        x.learn(4, 2, 25);
        x.learn(4, 2, 25);
        due(x.soonest(0, 6, 1), 4, "by LEARNT TABLE");
        due(x.soonest(0, 6, 0), 2, "by MAKER's");

        x = afloat();
        x.speed(4, 2, 1);
        x.cell(7, 1, 0);
        x.cell(1, 1, 0);
        due(x.soonest(0, 6, 1), 100, "PACE 1");

        x = afloat();
        x.wind(0, 0, 0);
        for (int b = 0; b < 5; b++) for (int a = 0; a < 5; a++) x.speed(a, b, b == 0 ? 2 : 50);
        x.wind(10, 0, 16);
        due(x.soonest(0, 6, 1), 12, "waiting for a better HOUR");
        x.speed(4, 0, 10);
        due(x.soonest(0, 6, 1), 10, "not waiting, when it doesn't help");

        x = afloat();
        rule(x, "shut hour < 3 if cell = 6");
        due(x.soonest(0, 6, 1), 32, "shut till HOUR 3");
        due(x.soonest(0, 12, 1), 1 + 3 + 2 + 3, "round a shut cell: 7 (HEADING 3), then HEADING 5");
        rule(x, "gust 15");
        due(x.soonest(0, 1, 1), NONE, "a gust rule below FORCE 16");
        rule(x, "gust 16");
        due(x.soonest(0, 1, 1), 4, "a gust rule that allows it");

        x = calm();
        x.sail(2);
        x.wind(0, 0, 25);
        x.at(40, 0);
        due(x.soonest(0, 6, 1), 9 + 5, "a CHANGE of 9 to the sail that HOLDS it, PACE 22");
        x.hand();
        due(x.soonest(0, 6, 1), 2 + 5, "a CHANGE of 2");
        rule(x, "tired 0");
        due(x.soonest(0, 6, 1), 3 + 5, "a CHANGE of 3");
        x.wind(6, 0, 39);
        x.stay(1);
        due(x.sailOf(0, 2), 1, "the sail is TORN");
        x.wind(0, 0, 16);
        due(x.soonest(0, 6, 1), 1 + 3 + 5, "TORN sails take no STEP");
        due(x.soonest(0, 0, 1), 1, "but the boat is there");
    }

    private static void plan() {
        promise = 21;
        WindBoat x = calm();
        due(x.plan(7, 36, -2), MISSING, "plan ahead of at");
        x.at(40, 0);
        due(x.plan(7, 0, -2), BEYOND, "plan(7, 0, -2)");
        due(x.plan(0, 36, -2), BEYOND, "plan(0, 36, -2)");
        due(x.plan(0, 0, -2), NO, "plan(0, 0, -2)");
        due(x.plan(0, 0, -1), 0, "no STEPS");
        due(x.plan(0, 0, 0), NONE, "no such STEP");
        due(x.plan(0, 13, -1), 2, "two STEPS");
        due(x.plan(0, 13, 0), 40, "the first");
        due(x.plan(0, 13, 1), 30, "the second");
        due(x.plan(0, 13, 2), NONE, "no third one");
        due(x.plan(0, 13, Integer.MAX_VALUE), NONE, "far beyond");
        x.cell(13, 1, 0);
        due(x.plan(0, 13, -1), NONE, "no PLAN");
        due(x.plan(0, 13, 0), NONE, "no STEP of it");

        // all STEPS take 2 TICKS, so that ways mirror one another about the diagonal
        x = new WindBoat();
        x.sail(0);
        for (int a = 0; a < 5; a++) for (int b = 0; b < 5; b++) x.speed(a, b, 99);
        x.cell(7, 1, 0);
        x.at(30, 0);
        due(x.soonest(0, 14, 1), 9, "round the LAND");
        int[] steps = {40, 30, 20, 30};
        for (int k = 0; k < 3; k++) due(x.plan(0, 14, k), steps[k], "the STATE of the least number last, STEP " + k);
        x.cell(15, 1, 0);
        x.cell(20, 1, 0);
        due(x.soonest(0, 21, 1), 12, "and on by CELL 14 alone");
        for (int k = 0; k < 4; k++) due(x.plan(0, 21, k), steps[k], "the STATE of the least number between, STEP " + k);

        x = new WindBoat();
        x.sail(3);
        x.speed(4, 0, 99);
        x.at(40, 0);
        due(x.soonest(0, 30, 1), 5, "STEPS of one TICK: PACE 118");
        for (int k = 0; k < 5; k++) due(x.plan(0, 30, k), 40, "each of them");

        x = calm();
        x.sail(2);
        x.hand();
        x.wind(0, 0, 25);
        x.at(40, 0);
        due(x.plan(0, 12, 0), 41, "with the other SAIL");
        due(x.plan(0, 12, 1), 41, "and again");
    }

    private static void races() {
        promise = 22;
        WindBoat x = calm();
        due(x.telling(5, 120), 0, "telling(5, 120)");
        due(x.telling(0, 0), 5, "telling(0, 0)");
        due(x.telling(-1, 0), NO, "telling(-1, 0)");
        due(x.telling(0, 121), NO, "telling(0, 121)");
        due(x.telling(6, 5), NO, "telling(6, 5)");
        due(x.telling(5, 5), 0, "telling(5, 5)");

        promise = 23;
        due(x.choice(0, 6), 0, "choice(0, 6)");
        due(x.choice(0, 6), 6, "choice(0, 6) again");
        due(x.choice(1, 12), 0, "choice(1, 12)");
        due(x.choice(3, 0), BEYOND, "choice(3, 0)");
        due(x.choice(-1, 0), BEYOND, "choice(-1, 0)");
        due(x.choice(0, 36), BEYOND, "choice(0, 36)");

        promise = 24;
        due(x.group(5, 2), 0, "group(5, 2)");
        due(x.group(5, 0), 2, "group(5, 0)");
        due(x.group(6, 3), BEYOND, "group(6, 3)");
        due(x.group(-1, 0), BEYOND, "group(-1, 0)");
        due(x.group(0, 3), NO, "group(0, 3)");
        due(x.group(0, -1), NO, "group(0, -1)");

        promise = 25;
        due(x.comes(33, 6), MISSING, "comes ahead of at");
        x.at(40, 0);
        x.mark(18);
        x.telling(0, 0);
        due(x.comes(1, 0), 6, "three steps");
        x.telling(5, 5);
        due(x.comes(1, 0), 9, "waiting for the first telling");
        x.telling(5, 20);
        due(x.comes(1, 0), 22, "waiting for the second one");
        x.telling(0, 120);
        due(x.comes(1, 0), 999, "no TICK left");
        x.mark(12);
        due(x.comes(1, 0), 120, "being there already");
        x.telling(0, 0);
        x.choice(2, 3);
        x.cell(3, 1, 0);
        due(x.comes(20, 0), 999, "the first choice can't be");
        due(x.comes(2, 0), 999, "the second choice can't be");
        x.choice(2, 18);
        due(x.comes(22, 1), 6 + 2 + 2 + 3 + 3, "to windward at the end: 19 (HEADING 2), then HEADING 7");
        for (int[] b : new int[][] {{3, 0}, {30, 0}, {-1, 0}, {0, 6}, {0, -1}}) due(x.comes(b[0], b[1]), BEYOND, "comes beyond");
    }

    /** Three worlds of different winds; what each choice leads to was worked out along the grid. */
    private static void trees() {
        promise = 26;
        WindBoat x = new WindBoat();
        due(x.tree(3, 6), MISSING, "tree ahead of at");
        x.sail(0);
        x.at(40, 0);
        due(x.tree(3, 6), MISSING, "tree without a TOLD WORLD");
        promise = 27;
        due(x.worth(), MISSING, "worth without a TOLD WORLD");
        promise = 26;
        x.wind(6, 0, 16);
        due(x.tree(0, 0), MISSING, "THE TRUTH is no WORLD");

        // HEADING 4 takes 2 TICKS a STEP in world 0 and 10 in world 1, HEADING 2 the other way round
        x.speed(4, 2, 50);
        x.speed(2, 2, 10);
        x.speed(4, 1, 10);
        x.speed(2, 1, 50);
        x.wind(0, 0, 16);
        x.wind(1, 0, 8);
        x.mark(7);
        x.choice(0, 0);
        x.choice(1, 6);
        x.choice(2, 1);
        x.telling(0, 30);
        // world 0: 6 at 2, 7 at 2+2+10; 1 at 12, 7 at 12+2+2; at TICK 30 from 6: +2+10, from 1: +2+2, from 0: 14
        due(x.comes(0, 0), 44, "world 0 by 0 and 0");
        due(x.comes(1, 0), 42, "world 0 by 0 and 6");
        due(x.comes(2, 0), 34, "world 0 by 0 and 1");
        // world 1: 6 at 10, 1 at 4; at TICK 30 from 6: +2+2, from 1: +2+10, from 0: 2+2+2+10
        due(x.comes(0, 1), 46 - 2, "world 1 by 0 and 0");
        due(x.comes(1, 1), 34, "world 1 by 0 and 6");
        due(x.comes(2, 1), 42, "world 1 by 0 and 1");
        due(x.comes(11, 0), 42, "world 0 by 6 and 6");
        due(x.comes(22, 0), 34, "world 0 by 1 and 1");
        // WEIGHTS: house 0 has one hit (world 0), so 2 each; all of one GROUP: 2 * (42 + 34) by any of 6 and 1
        due(x.tree(0, 0), 0, "MEAN: the first choice, the least of like ones");
        due(x.tree(0, 1), 152, "MEAN");
        due(x.tree(0, 2), 1, "MEAN: the second choice, the least of like ones");
        due(x.tree(0, 3), NONE, "MEAN: a GROUP without a TOLD WORLD");
        due(x.tree(0, 4), NONE, "MEAN: another one");
        due(x.tree(1, 0), 0, "WORST: the first choice");
        due(x.tree(1, 1), 42, "WORST");
        due(x.tree(1, 2), 1, "WORST: the second choice");
        // SOONEST to 7: 14 in world 0 (by 6), 4 + 2 + 10 or 10 + 2 + 2 = 14 in world 1
        due(x.soonest(0, 7, 1), 14, "SOONEST in world 0");
        due(x.soonest(1, 7, 1), 14, "SOONEST in world 1");
        due(x.tree(2, 0), 0, "RUE: the first choice");
        due(x.tree(2, 1), 28, "RUE");
        promise = 27;
        due(x.worth(), 0, "WORTH in one GROUP");
        x.group(1, 2);
        rule(x, "shut cell = 1");
        due(x.worth(), 0, "WORTH when one choice is shut, asked ahead of a tree");
        rule(x, "shut 0");
        due(x.worth(), 152 - 136, "WORTH in two GROUPS");
        x.wind(1, 0, 16);
        due(x.worth(), 0, "WORTH when both worlds are alike, asked ahead of a tree");
        x.wind(1, 0, 8);
        promise = 26;
        due(x.tree(0, 1), 136, "MEAN in two GROUPS");
        due(x.tree(0, 0), 0, "the first choice that waits for the telling");
        due(x.tree(0, 2), 2, "GROUP 0 by choice 2");
        due(x.tree(0, 3), NONE, "GROUP 1");
        due(x.tree(0, 4), 1, "GROUP 2 by choice 1");
        due(x.tree(1, 1), 34, "WORST in two GROUPS");
        due(x.tree(2, 1), 20, "RUE in two GROUPS");
        due(x.tree(0, 5), 2 + 2, "PLACES without RIVALS");
        x.rival(0, 0, 33);
        x.rival(1, 0, 34);
        x.rival(2, 1, 0);
        x.rival(3, 1, 33);
        x.rival(4, 2, 0);
        due(x.tree(0, 5), 2 * 2 + 2 * 3, "PLACES: who comes at the same TICK isn't ahead");
        x.telling(30, 30);
        due(x.tree(0, 0), 1, "a telling that comes late");
        due(x.tree(0, 2), 1, "and makes one stay there, GROUP 0");
        due(x.tree(0, 4), 1, "and GROUP 2");
        due(x.tree(0, 1), 2 * 42 + 2 * 34, "MEAN then");
        for (int[] b : new int[][] {{3, 0}, {-1, 0}, {0, 6}, {0, -1}}) due(x.tree(b[0], b[1]), NO, "tree NO");
        x.cell(7, 1, 0);
        due(x.tree(1, 1), 999, "WORST, if THE MARK can't be reached");
        due(x.tree(2, 1), 0, "RUE, if it can't be: 999 less 999");
        due(x.tree(0, 1), 4 * 999, "MEAN, if it can't be");
        promise = 27;
        due(x.worth(), 0, "WORTH, if it can't be");
    }

    private static void weightsAndRivals() {
        promise = 28;
        WindBoat x = new WindBoat();
        due(x.weight(6), BEYOND, "weight(6)");
        due(x.weight(-1), BEYOND, "weight(-1)");
        x.wind(6, 0, 20);
        x.wind(16, 0, 20);
        x.wind(26, 4, 20);
        x.wind(2, 7, 24);
        due(x.weight(2), 2, "an eighth off, 4 stronger");
        due(x.weight(3), 2, "the other world of the house");
        due(x.weight(1), 1, "another house");
        due(x.weight(4), 1, "and another");
        x.wind(3, 1, 16);
        due(x.weight(2), 3, "an eighth off the other way, 4 weaker");
        x.wind(12, 2, 20);
        due(x.weight(2), 3, "two eighths off");
        x.wind(12, 0, 25);
        due(x.weight(2), 3, "5 stronger");
        x.wind(12, 0, 15);
        due(x.weight(2), 3, "5 weaker");
        x.wind(12, 0, 20);
        due(x.weight(2), 4, "just so");
        x.wind(33, 4, 20);
        due(x.weight(2), 4, "an HOUR that isn't told in THE TRUTH");
        due(x.weight(0), 1, "a world that isn't told");

        promise = 29;
        due(x.rival(5, 5, 0), 999, "rival(5, 5, 0)");
        due(x.rival(5, 5, 999), 0, "rival(5, 5, 999)");
        due(x.rival(6, 0, 1000), BEYOND, "rival(6, 0, 1000)");
        due(x.rival(0, 6, 1000), BEYOND, "rival(0, 6, 1000)");
        due(x.rival(-1, 0, 0), BEYOND, "rival(-1, 0, 0)");
        due(x.rival(0, -1, 0), BEYOND, "rival(0, -1, 0)");
        due(x.rival(0, 0, 1000), NO, "rival(0, 0, 1000)");
        due(x.rival(0, 0, -1), NO, "rival(0, 0, -1)");
    }

    private static void play(int want, int... pays) {
        WindBoat x = new WindBoat();
        x.lay(pays.length);
        for (int i = 0; i < pays.length; i++) x.set(i, pays[i]);
        StringBuilder text = new StringBuilder("game");
        for (int p : pays) text.append(' ').append(p);
        due(x.game(), want, text.toString());
        due(x.status(-5) + x.status(-7), 0, "refusals of " + text);
    }

    private static void game() {
        promise = 30;
        play(2000, 2, 3, 1, 4);
        play(1500, 1, 2, 2, 1);
        play(-334, 0, -1, -1, 1);
        play(0, 0, 0, 0, 0);
        play(999000, 999, 999, 999, 999);
        play(-999000, -999, 999, -999, 999);
        play(0, -999, 999, 999, -999);
        play(0, 0, 1, -1, -1, 0, 1, 1, -1, 0);
        play(5000, 5, 5, 5, 0, 9, 9, 0, 9, 9);
        play(333, 1, 0, 0, 0, 1, 0, 0, 0, 1);
        play(-334, -1, 0, 0, 0, -1, 0, 0, 0, -1);
        play(1714, 3, 0, 9, 0, 4, 9, 0, 0, 0);
        play(545, 1, 0, 0, 0, 2, 0, 0, 0, 3);
        WindBoat x = new WindBoat();
        due(x.game(), 0, "game() without a row");
        due(x.status(-2), 1, "status(-2)");
        x.lay(5);
        x.set(0, 1000);
        due(x.game(), 0, "game() of 5");
        due(x.status(-5), 1, "status(-5)");
        for (int v : new int[] {1000, -1000, Integer.MIN_VALUE}) {
            x.lay(4);
            x.set(3, v);
            due(x.game(), 0, "game() with " + v + " last");
            x.lay(4);
            x.set(0, v);
            due(x.game(), 0, "game() with " + v + " first");
        }
        due(x.status(-7), 6, "status(-7)");
        x.lay(0);
        due(x.game(), 0, "game() of none");
        due(x.status(-5), 2, "status(-5) then");
    }

    private static void at() {
        promise = 31;
        WindBoat x = calm();
        x.sail(4);
        due(x.at(3571, 120), 3 * (8 * 35 + 7) + 1, "at(3571, 120)");
        due(x.boat(3), 120, "its TICK");
        due(x.at(0, 0), 0, "at(0, 0)");
        x.cell(5, 1, 0);
        due(x.at(3600, 121), BEYOND, "at(3600, 121)");
        due(x.at(580, 121), BEYOND, "at(580, 121)");
        due(x.at(502, 121), BEYOND, "at(502, 121)");
        due(x.at(-1, 0), BEYOND, "at(-1, 0)");
        due(x.at(Integer.MIN_VALUE, 0), BEYOND, "at the least number");
        due(x.at(500, 121), KIND, "at(500, 121)");
        due(x.at(400, 121), NO, "at(400, 121)");
        due(x.at(400, -1), NO, "at(400, -1)");
        x.wind(6, 0, 17);
        x.at(1, 0);
        x.stay(1);
        due(x.sailOf(1, 2), 1, "the KITE is TORN");
        due(x.at(501, 0), KIND, "KIND ahead of NO");
        due(x.at(401, 0), NO, "with a TORN sail");
        due(x.boat(3), 1, "where it was");
    }

    private static void stay() {
        promise = 32;
        WindBoat x = calm();
        due(x.stay(-1), MISSING, "stay(-1) ahead of at");
        x.at(0, 59);
        due(x.stay(-1), BELOW, "stay(-1)");
        due(x.stay(0), NO, "stay(0)");
        due(x.stay(61), NO, "stay(61)");
        due(x.stay(60), 119, "stay(60)");
        due(x.stay(61), NO, "NO ahead of FULL");
        due(x.stay(2), FULL, "stay(2)");
        due(x.stay(1), 120, "stay(1)");
        due(x.stay(1), FULL, "stay(1) at TICK 120");

        x = calm();
        x.wind(16, 0, 25);
        x.at(0, 0);
        x.stay(10);
        due(x.sailOf(0, 2), 0, "WHOLE as long as no TICK of HOUR 1 went by");
        x.stay(1);
        due(x.sailOf(0, 2), 1, "TORN as TICK 10 goes by");
        x = calm();
        x.cell(0, 0, 4);
        x.wind(6, 0, 25);
        x.at(0, 0);
        x.stay(60);
        due(x.sailOf(0, 2), 0, "FORCE 24 in the CELL tears no SAIL");
        due(rule(x, "gust 1"), 0, "a rule of gust");
        x.stay(1);
        due(x.sailOf(0, 2), 0, "nor does a rule");
        x.wind(6, 0, 26);
        x.wind(56, 0, 26);
        x.cell(0, 0, 3);
        x.stay(1);
        due(x.sailOf(0, 2), 1, "FORCE 25 does");
    }

    private static void go() {
        promise = 33;
        WindBoat x = calm();
        due(x.go(8), MISSING, "go(8) ahead of at");
        x.at(1440, 0);
        due(x.go(8), BEYOND, "go(8)");
        due(x.go(-1), BEYOND, "go(-1)");
        due(x.go(4), 2, "go(4)");
        due(x.boat(0), 20, "the CELL below");
        due(x.go(3), 2 + 1 + 3, "go(3)");
        due(x.boat(0), 27, "the CELL right below");
        due(x.boat(1), 3, "HEADING 3");
        due(x.go(0), NO, "go(0) into the wind");
        due(x.boat(1), 3, "HEADING stays");
        due(x.boat(3), 6, "TICK stays");
        due(x.go(7), 6 + 4 + 3, "go(7)");
        due(x.boat(0), 20, "the CELL left above");
        x.cell(21, 1, 0);
        due(x.go(2), NO, "LAND");
        x.cell(21, 0, 0);
        rule(x, "shut hour = 1 if cell = 21");
        due(x.go(2), NO, "shut in HOUR 1");
        x.stay(4);
        due(x.boat(3), 17, "TICK 17");
        due(x.go(2), 17 + 3 + 2, "the STEP begins in HOUR 2");
        due(x.boat(0), 21, "where it leads");
        rule(x, "gust 15 if cell = 21");
        due(x.go(2), NO, "gust of the CELL that is left");
        rule(x, "gust 16");
        due(x.go(2), 24, "gust 16 allows it");
        due(x.count(9), 5, "five STEPS");
        x.at(500, 0);
        due(x.go(1), NO, "no CELL above");
        due(x.go(2), NO, "no CELL to the right");
        due(x.go(3), NO, "none right below");
        x.at(40, 118);
        due(x.go(3), NO, "behind TICK 120");
        due(x.go(4), 120, "just at TICK 120");
        due(x.go(4), NO, "at TICK 120");
        due(x.go(0), NO, "a TURN behind TICK 120");

        x = calm();
        x.wind(16, 0, 25);
        x.at(30, 9);
        due(x.go(5), NO, "the SAIL would be TORN as it turns");
        due(x.sailOf(0, 2), 0, "but it isn't");
        x.at(630, 9);
        due(x.go(4), NO, "HOUR 1 has too much FORCE");
        x.wind(26, 0, 16);
        x.at(130, 18);
        due(x.go(5), NO, "the SAIL would be TORN as it turns, though HOUR 2 is calm");
        due(x.sailOf(0, 2), 0, "but it isn't, as the call is refused");
        due(x.boat(3), 18, "nor did TICKS go by");
        x.at(150, 20);
        due(x.go(5), 23, "without a TURN in HOUR 1");
        x.at(40, 9);
        due(x.go(4), 11, "but HOUR 0 is when it begins");
        due(x.sailOf(0, 2), 1, "and TORN it is as the STEP goes on");
        due(x.boat(0), 6, "the STEP ends all the same");
        due(x.go(4), NO, "with a TORN SAIL");
        x = calm();
        x.hand();
        x.wind(16, 0, 25);
        x.cell(0, 0, 50);
        x.at(40, 9);
        x.go(4);
        due(x.sailOf(0, 2), 0, "the CELL that is left shelters till the STEP ends");
        due(x.boat(7), 2, "hands tire by the TICK");
        x.learn(4, 2, 10);
        x.learn(4, 2, 10);
        x.learn(4, 2, 10);
        x.at(40, 0);
        x.cell(0, 0, 0);
        due(x.go(4), 10, "by LEARNT TABLE");
    }

    private static void raise() {
        promise = 34;
        WindBoat x = calm();
        x.sail(1);
        x.sail(4);
        due(x.raise(3), MISSING, "raise(3) ahead of at");
        x.at(0, 0);
        due(x.raise(3), BEYOND, "raise(3)");
        due(x.raise(-1), BEYOND, "raise(-1)");
        due(x.raise(0), NO, "raise(0), which is up");
        due(x.raise(1), 9, "none is awake");
        due(x.boat(2), 1, "JIB is up");
        x.hand();
        due(x.raise(0), 11, "2 TICKS");
        x.stay(39 - 11 + 11);
        due(x.boat(7), 41, "TIREDNESS 41");
        due(x.raise(1), 53, "3 TICKS with a TIRED hand");
        x.wind(56, 0, 25);
        x.raise(2);
        due(x.boat(3), 56, "TICK 56");
        due(x.sailOf(1, 2), 0, "JIB HOLDS 25");
        due(x.sailOf(2, 2), 0, "KITE wasn't up till the CHANGE ended");
        x.stay(1);
        due(x.sailOf(2, 2), 1, "KITE is TORN now");
        due(x.raise(1), 60, "raise(1)");
        due(x.raise(2), NO, "TORN");
        x.at(1, 118);
        due(x.raise(2), NO, "NO ahead of FULL");
        due(x.raise(0), FULL, "above 120");
        x.at(1, 117);
        due(x.raise(0), 120, "just at 120");

        x = calm();
        x.sail(2);
        x.wind(6, 0, 25);
        x.at(0, 0);
        x.raise(1);
        due(x.sailOf(0, 2), 1, "the old SAIL is TORN till the CHANGE ends");
        due(x.sailOf(1, 2), 0, "the new one isn't");
    }

    private static void mend() {
        promise = 35;
        WindBoat x = calm();
        x.sail(2);
        due(x.mend(9), MISSING, "mend(9) ahead of at");
        x.wind(6, 0, 30);
        x.at(0, 0);
        due(x.mend(2), BEYOND, "mend(2)");
        due(x.mend(-1), BEYOND, "mend(-1)");
        due(x.mend(0), NO, "a WHOLE one");
        x.hand();
        x.stay(1);
        due(x.mend(0), 13, "12 TICKS");
        due(x.boat(7), 13, "which tire");
        due(x.sailOf(0, 2), 0, "WHOLE then, though it is up");
        x.stay(1);
        due(x.sailOf(0, 2), 1, "TORN again");
        x.at(1, 109);
        due(x.mend(1), NO, "NO ahead of FULL");
        due(x.mend(0), FULL, "above 120");
        x.at(1, 108);
        due(x.mend(0), 120, "just at 120");
        due(x.count(3), 0, "no TORN one");
    }

    private static void boat() {
        promise = 36;
        WindBoat x = calm();
        due(x.boat(8), MISSING, "boat(8) ahead of at");
        x.sail(3);
        x.at(1461, 7);
        int[] want = {14, 6, 1, 7, 9, 0, 0, 0};
        for (int what = 0; what < 8; what++) due(x.boat(what), want[what], "boat(" + what + ")");
        due(x.boat(8), NO, "boat(8)");
        due(x.boat(-1), NO, "boat(-1)");
        x.hand();
        x.hand();
        x.hand();
        x.stay(5);
        x.sleep(1, 1);
        x.stay(1);
        rule(x, "tired 6 - sail - cell");
        due(x.boat(4), 4, "CHANGE with two TIRED ones awake");
        due(x.boat(5), 2, "two are awake");
        due(x.boat(6), 2, "two TIRED ones awake");
        due(x.boat(7), 6 + 3 + 6, "TIREDNESS of all");
        rule(x, "tired 7");
        due(x.boat(6), 0, "none is TIRED");
        rule(x, "tired hour * 6");
        due(x.boat(6), 2, "tired in THE BOAT's HOUR (1)");
        WindBoat y = new WindBoat();
        y.sail(3);
        y.hand();
        y.at(0, 0);
        rule(y, "tired sail");
        y.stay(2);
        due(y.boat(6), 0, "tired asks of the KIND of SAIL 0, which is 3");
        y.sail(2);
        y.at(1, 0);
        due(y.boat(6), 0, "also when another SAIL is there, and up");
        y.stay(1);
        due(y.boat(6), 1, "TIREDNESS 3");
        x.at(0, 120);
        rule(x, "tired 6 if hour = 11");
        due(x.boat(6), 2, "HOUR of TICK 120");
        x.sleep(0, 1);
        x.sleep(2, 1);
        due(x.boat(4), 9, "none is awake");
    }

    private static void lost() {
        promise = 37;
        WindBoat x = calm();
        due(x.lost(6, 5), MISSING, "lost(6, 5) ahead of at");
        x.at(40, 0);
        due(x.lost(6, 5), BEYOND, "lost(6, 5)");
        due(x.lost(-1, 0), BEYOND, "lost(-1, 0)");
        due(x.lost(0, 5), NO, "lost(0, 5)");
        due(x.lost(0, -1), NO, "lost(0, -1)");
        x.mark(0);
        due(x.lost(0, 3), 0, "SAILED to where it is");
        x.mark(7);
        for (int what = 0; what < 5; what++) due(x.lost(0, what), what < 3 ? 0 : 4, "nothing is LOST");
        x.go(4);
        due(x.lost(0, 3), 4, "from where it was put");

        x.at(40, 118);
        x.mark(6);
        due(x.lost(0, 3), 120, "SAILED just at TICK 120");
        x.at(40, 119);
        due(x.lost(0, 3), 999, "and not behind it");

        x = new WindBoat();
        x.sail(3);
        x.speed(4, 0, 99);
        x.at(40, 0);
        x.mark(30);
        due(x.lost(0, 3), 5, "STEPS of one TICK");

        // MAKER's: HEADING 4 is fast, so PLAN to 13 is 6 (HEADING 4), 13 (HEADING 3); truly HEADING 4 takes 25
        x = calm();
        x.at(40, 0);
        x.mark(13);
        for (int i = 0; i < 3; i++) x.learn(4, 2, 4);
        // PLAN of the world by MAKER's sails 25 + 1 + 3; by LEARNT: 7 and 14 (HEADING 3), 13 (HEADING 6)
        due(x.lost(0, 3), 29, "none put right");
        due(x.lost(0, 4), 1 + 3 + 3 + 3 + 2, "all put right");
        due(x.lost(0, 0), 0, "WINDS");
        due(x.lost(0, 1), 6 * (29 - 12), "TABLE");
        due(x.lost(0, 2), 0, "HANDS");

        // worlds 0 and THE TRUTH differ, and so do hands: a CHANGE takes 9, put right 2
        x = calm();
        x.sail(2);
        x.wind(6, 0, 25);
        x.at(40, 0);
        x.mark(6);
        // in the world: STEP with SAIL, which can't begin in THE TRUTH; in THE TRUTH: CHANGE, then 5 TICKS with STORM
        due(x.lost(0, 3), 999, "SAILED without a STEP that may begin");
        due(x.lost(0, 4), 7, "all put right");
        due(x.lost(0, 0), 2 * (999 - 14) + (999 - 14) + (999 - 7) + 2 * (999 - 7), "WINDS");
        due(x.lost(0, 1), 0, "TABLE");
        due(x.lost(0, 2), 1 * (14 - 7) + 2 * (14 - 7), "HANDS");
        x.mark(35);
        x.cell(35, 1, 0);
        due(x.lost(0, 3), 999, "no PLAN");
        due(x.lost(0, 1), 0, "SHARE without a PLAN");
    }

    private static void count() {
        promise = 38;
        WindBoat x = calm();
        x.cell(3, 1, 0);
        x.cell(4, 1, 0);
        x.wind(36, 0, 25);
        x.hand();
        x.sail(2);
        x.at(40, 26);
        x.go(4);
        x.stay(3);
        rule(x, "tired 1");
        type(x, "gust");
        x.learn(0, 0, 1);
        x.learn(4, 4, 1);
        x.mark(9);
        int[] want = {2, 8, 2, 1, 1, 1, 4, 2, 6, 1, 9, 1};
        for (int what = 0; what < 12; what++) due(x.count(what), want[what], "count(" + what + ")");
        due(x.count(12), 0, "count(12)");
        due(x.count(-1), 0, "count(-1)");
        due(x.status(-7), 2, "status(-7)");
        x.wind(36, 0, 24);
        due(x.count(1), 8, "an HOUR told again");
    }

    private static void images() {
        promise = 40;
        WindBoat x = afloat();
        due(x.back(), MISSING, "back() ahead of image()");
        x.telling(3, 4);
        x.choice(1, 8);
        x.group(2, 1);
        x.rival(3, 3, 33);
        x.hand();
        for (int i = 0; i < 3; i++) x.learn(1, 1, 5);
        rule(x, "tired 3");
        x.go(4);
        promise = 39;
        due(x.image(), 2, "image()");
        promise = 40;
        x.cell(9, 1, 9);
        x.wind(56, 1, 1);
        x.mark(1);
        x.speed(0, 0, 9);
        x.learn(1, 1, 1);
        x.learn(1, 1, 99);
        x.sail(4);
        x.hand();
        x.sleep(0, 1);
        rule(x, "tired 1");
        x.telling(5, 6);
        x.choice(1, 9);
        x.group(2, 2);
        x.rival(3, 3, 44);
        x.go(4);
        x.at(1210, 77);
        x.wind(6, 5, 39);
        x.wind(76, 0, 39);
        x.stay(1);
        due(x.sailOf(0, 2), 1, "the SAIL is TORN meanwhile");
        type(x, "gust");
        x.lay(3);
        x.set(0, 7);
        int refused = x.status(-2);
        due(x.back(), 2, "back()");
        due(x.status(-2), refused, "status stays");
        due(x.row(0), 7, "THE ROW stays");
        due(x.count(6), 4, "THE TAPE stays");
        int[] want = {0, 7, 1, 0, 1, 1, 4, 3, 6, 1, 35, 1};
        for (int what = 0; what < 12; what++) due(x.count(what), want[what], "count(" + what + ") behind back()");
        int[] boat = {6, 4, 0, 2, 2, 1, 0, 2};
        for (int what = 0; what < 8; what++) due(x.boat(what), boat[what], "boat(" + what + ") behind back()");
        due(x.blows(6, 9, 2), 16, "SHELTER and FORCE");
        due(x.blows(6, 9, 0), 0, "FROM");
        due(x.sailOf(0, 2), 0, "WHOLE");
        due(x.table(0, 0, 0), 0, "MAKER's");
        due(x.table(1, 1, 1), 5, "LEARNT");
        due(x.table(1, 1, 2), 3, "OWN ROWS");
        due(x.table(1, 1, 3), 5, "the least of them");
        due(x.table(1, 1, 4), 5, "the greatest of them");
        due(x.says(20, 0, 0), 3, "RULES");
        due(x.telling(0, 0), 3, "TELLINGS");
        due(x.choice(1, 0), 8, "CHOICES");
        due(x.group(2, 0), 1, "GROUPS");
        due(x.rival(3, 3, 0), 33, "RIVALS");
        x.mark(12);
        due(x.lost(0, 4), 4, "where it was put");
        due(x.back(), 2, "back() again");
        x.choice(0, 6);
        x.mark(12);
        due(x.comes(0, 0), 6, "the second TELLING (4), then a STEP");
        due(x.telling(0, 0), 3, "TELLINGS again");
        promise = 39;
        x.at(0, 50);
        due(x.image(), 50, "another image()");
        x.stay(1);
        due(x.back(), 50, "back() to it");
        x = new WindBoat();
        due(x.image(), 0, "image() of nothing");
        x.sail(0);
        x.at(0, 9);
        due(x.back(), 0, "back() to nothing");
        due(x.count(11), 0, "THE BOAT isn't put");
        due(x.count(2), 0, "nor are there SAILS");
    }

    private static void rows() {
        promise = 41;
        WindBoat x = new WindBoat();
        due(x.lay(-1), BELOW, "lay(-1)");
        due(x.lay(13), NO, "lay(13)");
        due(x.tear(), 0, "nothing was laid");
        due(x.lay(12), 12, "lay(12)");

        promise = 42;
        due(x.set(11, Integer.MIN_VALUE), 0, "set(11, ..)");
        due(x.set(11, 5), Integer.MIN_VALUE, "set(11, 5)");
        due(x.set(12, 1), 0, "set(12, 1)");
        due(x.set(-1, 1), 0, "set(-1, 1)");
        due(x.status(-3), 2, "status(-3)");

        promise = 44;
        due(x.row(11), 5, "row(11)");
        due(x.row(12), 0, "row(12)");
        due(x.row(-1), 0, "row(-1)");
        due(x.status(-3), 4, "status(-3)");
        promise = 41;
        due(x.lay(12), 12, "lay(12) again");
        due(x.row(11), 0, "all 0");
        due(x.lay(0), 0, "lay(0)");
        due(x.row(0), 0, "row(0) of none");
        due(x.status(-3), 5, "status(-3)");

        promise = 43;
        due(x.tear(), 1, "tear()");
        due(x.tear(), 0, "tear() again");
        promise = 42;
        due(x.set(99, 1), 0, "set without a row");
        promise = 44;
        due(x.row(99), 0, "row without a row");
        due(x.status(-2), 2, "status(-2)");

        promise = 45;
        due(x.copy(-1, 0, -1), MISSING, "copy without a row");
        x.lay(5);
        for (int i = 0; i < 5; i++) x.set(i, i + 1);
        due(x.copy(-1, 0, -1), BELOW, "copy(-1, 0, -1)");
        for (int[] c : new int[][] {{-1, 0, 1}, {0, -1, 1}, {0, 1, 5}, {1, 0, 5}, {0, 0, 6}, {6, 0, 0}, {0, 6, 0},
            {Integer.MAX_VALUE, 0, 1}, {1, 0, Integer.MAX_VALUE}, {0, Integer.MAX_VALUE, Integer.MAX_VALUE}}) {
            due(x.copy(c[0], c[1], c[2]), COPY, "copy(" + c[0] + ", " + c[1] + ", " + c[2] + ")");
        }
        due(x.copy(5, 5, 0), 0, "copy(5, 5, 0)");
        due(x.copy(0, 1, 4), 4, "copy(0, 1, 4)");
        int[] up = {1, 1, 2, 3, 4};
        for (int i = 0; i < 5; i++) due(x.row(i), up[i], "row(" + i + ") as they were, upwards");
        due(x.copy(2, 1, 3), 3, "copy(2, 1, 3)");
        int[] down = {1, 2, 3, 4, 4};
        for (int i = 0; i < 5; i++) due(x.row(i), down[i], "row(" + i + ") as they were, downwards");
        due(x.copy(0, 0, 5), 5, "all onto itself");
    }

    private static void status() {
        promise = 46;
        WindBoat x = new WindBoat();
        x.boat(0);
        x.mark(99);
        x.mark(-9);
        x.lay(-1);
        x.sail(1);
        x.taken(0, 2);
        x.lay(1);
        x.copy(0, 0, 9);
        x.sail(9);
        x.count(99);
        x.sail(0);
        x.sail(0);
        x.sail(0);
        int[] want = {1, 2, 1, 1, 1, 2, 1};
        for (int i = 0; i < 7; i++) due(x.status(-2 - i), want[i], "status(" + (-2 - i) + ")");
        due(x.status(-1), NO, "status(-1)");
        due(x.status(-9), NO, "status(-9)");
        due(x.status(Integer.MIN_VALUE), NO, "status of the least number");
        due(x.status(-7), 5, "status(-7) counts these too");
        rule(x, "shut");
        due(x.status(-7), 5, "a FAULT is no refusal");
        rule(x, "shut -3");
        due(x.says(0, 0, 0), -3, "a rule that says -3");
        due(x.status(-3), 2, "isn't one either");
    }
}
