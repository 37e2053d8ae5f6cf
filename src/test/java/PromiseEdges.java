/** Boundary cases that promises 1 to 46 of the document name. */
final class PromiseEdges {
    private static final int NONE = Run.NONE, MISSING = Run.MISSING, BEYOND = Run.BEYOND, BELOW = Run.BELOW, KIND = Run.KIND,
        COPY = Run.COPY, NO = Run.NO, FULL = Run.FULL, LEAST = Run.LEAST, MOST = Run.MOST;

    private PromiseEdges() {
    }

    /** Ready, and SAIL 0 (that is up) is TORN at TICK 1 of CELL 14; THE TRUTH is calm again. */
    private static Run torn() {
        return Run.ready().then("wind", 6, 0, 25).then("at", 1400, 0).then("stay", 1).then("wind", 6, 0, 0)
            .due(1, "sailOf", 0, 2);
    }

    // ---- 1: a new object

    @Sentence("Nothing is told")
    static void p01_nothing_is_told() {
        Run x = new Run();
        for (int what = 0; what < 12; what++) x.due(what == 10 ? 35 : 0, "count", what);
        for (int hour = 0; hour < 12; hour++) for (int wind = 0; wind < 7; wind++) x.due(0, "blows", 10 * hour + wind, 0, 3);
        for (int i = 0; i < 25; i++) x.due(0, "table", i / 5, i % 5, 0).due(0, "table", i / 5, i % 5, 2)
            .due(NONE, "table", i / 5, i % 5, 3);
        for (int by = FULL; by <= MISSING; by++) x.due(0, "status", by);
        x.refused(BEYOND, "sailOf", 0, 0).refused(BEYOND, "sleep", 0, 0).refused(MISSING, "back");
    }

    @Sentence("THE BOAT isn't put")
    static void p01_the_boat_is_not_put() {
        new Run().due(0, "count", 11).refused(MISSING, "boat", 0).due(0, "image");
    }

    @Sentence("THE TAPE is empty")
    static void p01_the_tape_is_empty() {
        new Run().due(0, "count", 6).due(-10, "rule", 0, 12).due(0, "wipe");
    }

    @Sentence("THE ROW is missing")
    static void p01_the_row_is_missing() {
        new Run().refused(MISSING, "row", 0).refused(MISSING, "set", 0, 1).refused(MISSING, "copy", 0, 0, 0)
            .refused(MISSING, "game").due(0, "tear");
    }

    @Sentence("`WindBoat()`")
    static void p01_each_object_is_its_own() {
        Run one = new Run(), other = new Run();
        one.then("hand").then("lay", 3).then("feed", 'x', 1).then("sail", 9);
        other.due(0, "count", 4).due(0, "tear").due(0, "wipe").due(0, "status", NO);
    }

    // ---- 2 .. 5: the sea, winds

    @Sentence("A CELL is LAND (land = 1) or not (0), with a SHELTER")
    static void p02_land_is_1_or_0_and_shelter_0_to_90() {
        Run x = Run.rich().due(0, "cell", 35, 1, 90).due(1, "cell", 35, 0, 0).due(0, "cell", 0, 1, 0).due(1, "cell", 0, 1, 90);
        x.refused(NO, "cell", 35, 2, 0).refused(NO, "cell", 35, -1, 0).refused(NO, "cell", 35, LEAST, 0)
            .refused(NO, "cell", 35, MOST, 0);
        x.refused(NO, "cell", 35, 1, 91).refused(NO, "cell", 35, 1, -1).refused(NO, "cell", 35, 1, LEAST)
            .refused(NO, "cell", 35, 1, MOST);
    }

    @Sentence("whether it was LAND")
    static void p02_whether_it_was_land() {
        new Run().due(0, "cell", 9, 0, 90).due(0, "cell", 9, 1, 0).due(1, "cell", 9, 1, 90).due(1, "cell", 9, 0, 90)
            .due(0, "cell", 9, 0, 0);
    }

    @Sentence("BEYOND; NO.")
    static void p02_beyond_ahead_of_no() {
        Run x = Run.rich();
        for (int cell : new int[] {36, -1, LEAST, MOST}) x.refused(BEYOND, "cell", cell, 0, 0)
            .refused(BEYOND, "cell", cell, 2, 91);
    }

    @Sentence("FROM and FORCE of a WIND in an HOUR (HOUR and WIND as 10 * HOUR + WIND)")
    static void p03_hour_and_wind_in_one_number() {
        Run x = new Run().due(NONE, "wind", 116, 7, 39).due(7, "blows", 116, 0, 0).due(39, "blows", 116, 0, 1)
            .due(0, "blows", 115, 0, 1);
        x.due(NONE, "wind", 10, 1, 2).due(0, "blows", 0, 0, 3).due(0, "blows", 1, 0, 3).due(1, "blows", 10, 0, 3);
    }

    @Sentence("FORCE that was told ahead (NONE: none)")
    static void p03_none_where_nothing_was_told_ahead() {
        new Run().due(NONE, "wind", 0, 0, 0).due(0, "wind", 0, 0, 39).due(39, "wind", 0, 0, 0).due(NONE, "wind", 10, 0, 5)
            .due(NONE, "wind", 1, 0, 5);
    }

    @Sentence("BEYOND: WIND, HOUR; NO: FROM, FORCE")
    static void p03_beyond_wind_and_hour_then_no_from_and_force() {
        Run x = Run.rich();
        for (int of : new int[] {7, 8, 9, 17, 117, 119, 120, 126, -1, -4, -10, LEAST, MOST}) x.refused(BEYOND, "wind", of, 8, 40);
        for (int bad : new int[] {8, -1, LEAST, MOST}) x.refused(NO, "wind", 0, bad, 0);
        for (int bad : new int[] {40, -1, LEAST, MOST}) x.refused(NO, "wind", 0, 0, bad);
    }

    @Sentence("FROM (what = 0), FORCE (1), FORCE in the CELL (2), whether the HOUR is told (3)")
    static void p04_what_0_to_3() {
        Run x = new Run().then("wind", 24, 5, 30).then("cell", 9, 0, 90).due(5, "blows", 24, 9, 0).due(30, "blows", 24, 9, 1);
        x.due(3, "blows", 24, 9, 2).due(1, "blows", 24, 9, 3).due(0, "blows", 34, 9, 3).due(3, "blows", 34, 9, 2)
            .due(0, "blows", 14, 9, 2);
    }

    @Sentence("BEYOND, NO.")
    static void p04_beyond_ahead_of_no() {
        Run x = Run.rich();
        for (int of : new int[] {7, 9, 117, 120, -1, LEAST, MOST}) x.refused(BEYOND, "blows", of, 0, 4);
        for (int cell : new int[] {36, -1, LEAST, MOST}) x.refused(BEYOND, "blows", 0, cell, 4);
        for (int what : new int[] {4, -1, LEAST, MOST}) x.refused(NO, "blows", 0, 0, what);
    }

    @Sentence("THE MARK is a CELL: the one ahead. BEYOND.")
    static void p05_the_mark_ahead_and_beyond() {
        Run x = new Run().due(35, "mark", 35).due(35, "mark", 0).due(0, "mark", 35);
        for (int cell : new int[] {36, -1, LEAST, MOST}) x.refused(BEYOND, "mark", cell);
        x.due(35, "mark", 1);
    }

    // ---- 6 .. 14: tables, sails, hands

    @Sentence("SPEED by MAKER's TABLE: the one ahead. BEYOND; NO.")
    static void p06_the_speed_ahead_beyond_and_no() {
        Run x = Run.rich().due(0, "speed", 4, 4, 99).due(99, "speed", 4, 4, 0).due(0, "speed", 4, 4, 0);
        for (int bad : new int[] {5, -1, LEAST, MOST}) x.refused(BEYOND, "speed", bad, 0, 100)
            .refused(BEYOND, "speed", 0, bad, 100);
        for (int speed : new int[] {100, -1, LEAST, MOST}) x.refused(NO, "speed", 0, 0, speed);
    }

    @Sentence("An OWN ROW: how many there are for this ANGLE and BAND")
    static void p07_how_many_for_this_angle_and_band() {
        new Run().due(1, "learn", 0, 4, 0).due(2, "learn", 0, 4, 99).due(1, "learn", 4, 0, 5).due(1, "learn", 4, 4, 5)
            .due(3, "learn", 0, 4, 5);
    }

    @Sentence("BEYOND; NO: SPEED")
    static void p07_beyond_ahead_of_no() {
        Run x = Run.rich();
        for (int bad : new int[] {5, -1, LEAST, MOST}) x.refused(BEYOND, "learn", bad, 0, 100)
            .refused(BEYOND, "learn", 0, bad, 100);
        for (int speed : new int[] {100, -1, LEAST, MOST}) x.refused(NO, "learn", 2, 1, speed);
    }

    @Sentence("FULL: 99 of them")
    static void p07_full_at_99_of_one_angle_and_band() {
        Run x = new Run();
        for (int i = 1; i <= 99; i++) x.due(i, "learn", 3, 2, i % 2 == 0 ? 99 : 98);
        x.refused(FULL, "learn", 3, 2, 50).refused(NO, "learn", 3, 2, 100).due(99, "table", 3, 2, 2).due(98, "table", 3, 2, 1);
        x.due(1, "learn", 3, 1, 50).due(1, "learn", 2, 2, 50).due(101, "count", 7);
    }

    @Sentence("SPEED by MAKER's TABLE (what = 0), by LEARNT TABLE (1), how many OWN ROWS (2)")
    static void p08_what_0_to_2() {
        Run x = new Run().then("speed", 1, 1, 99).due(99, "table", 1, 1, 0).due(99, "table", 1, 1, 1).due(0, "table", 1, 1, 2);
        x.then("learn", 1, 1, 1).then("learn", 1, 1, 0).due(99, "table", 1, 1, 1).due(2, "table", 1, 1, 2);
        x.then("learn", 1, 1, 1).due(99, "table", 1, 1, 0).due(0, "table", 1, 1, 1).due(3, "table", 1, 1, 2);
    }

    @Sentence("the least (3) and greatest (4) of them (NONE)")
    static void p08_none_is_least_and_greatest_of_no_rows() {
        Run x = new Run().due(NONE, "table", 1, 1, 3).due(NONE, "table", 1, 1, 4).then("learn", 1, 1, 5).due(5, "table", 1, 1, 3)
            .due(5, "table", 1, 1, 4);
        x.then("learn", 1, 1, 0).due(0, "table", 1, 1, 3).due(5, "table", 1, 1, 4).then("learn", 1, 1, 99)
            .due(0, "table", 1, 1, 3).due(99, "table", 1, 1, 4);
        x.then("learn", 1, 1, 7).due(0, "table", 1, 1, 3).due(99, "table", 1, 1, 4).due(NONE, "table", 1, 2, 3);
        new Run().then("learn", 0, 0, 0).due(0, "table", 0, 0, 4);
    }

    @Sentence("BEYOND, NO.")
    static void p08_beyond_ahead_of_no() {
        Run x = Run.rich();
        for (int bad : new int[] {5, -1, LEAST, MOST}) x.refused(BEYOND, "table", bad, 0, 5).refused(BEYOND, "table", 0, bad, 5)
            .refused(NO, "table", 0, 0, bad);
    }

    @Sentence("A SAIL of a KIND (0 .. 4): its number. NO, FULL.")
    static void p09_kinds_0_to_4_and_no_ahead_of_full() {
        Run x = new Run();
        for (int kind : new int[] {5, -1, LEAST, MOST}) x.refused(NO, "sail", kind);
        x.due(0, "sail", 0).due(1, "sail", 4).due(2, "sail", 2);
        for (int kind = 0; kind < 5; kind++) x.refused(FULL, "sail", kind);
        for (int kind : new int[] {5, -1, LEAST, MOST}) x.refused(NO, "sail", kind);
        x.due(3, "count", 2);
    }

    @Sentence("PACE with a SAIL of a SPEED (0 .. 99) at an ANGLE")
    static void p10_speed_0_to_99_at_angle_0_to_4() {
        Run x = new Run().then("sail", 0).then("sail", 4);
        for (int angle = 0; angle < 5; angle++) x.due(0, "pace", 0, angle, 0).due(99, "pace", 0, angle, 99)
            .due(angle > 2 ? 153 : 63, "pace", 1, angle, 99);
    }

    @Sentence("BEYOND; NO.")
    static void p10_beyond_ahead_of_no() {
        new Run().refused(BEYOND, "pace", 0, 0, 0);
        Run x = Run.rich();
        for (int sail : new int[] {2, 3, -1, LEAST, MOST}) x.refused(BEYOND, "pace", sail, 0, 100);
        for (int angle : new int[] {5, -1, LEAST, MOST}) x.refused(BEYOND, "pace", 0, angle, 100);
        for (int speed : new int[] {100, -1, LEAST, MOST}) x.refused(NO, "pace", 1, 4, speed);
    }

    @Sentence("KIND (what = 0), HOLDS (1), whether it is TORN (2)")
    static void p11_what_0_to_2() {
        torn().then("sail", 2).due(0, "sailOf", 0, 0).due(24, "sailOf", 0, 1).due(1, "sailOf", 0, 2).due(2, "sailOf", 1, 0)
            .due(39, "sailOf", 1, 1).due(0, "sailOf", 1, 2);
    }

    @Sentence("BEYOND, NO.")
    static void p11_beyond_ahead_of_no() {
        new Run().refused(BEYOND, "sailOf", 0, 0);
        Run x = Run.rich();
        for (int sail : new int[] {2, -1, LEAST, MOST}) x.refused(BEYOND, "sailOf", sail, 3);
        for (int what : new int[] {3, -1, LEAST, MOST}) x.refused(NO, "sailOf", 1, what);
    }

    @Sentence("A SAIL taken for one of KIND k, or one under that one: what it HOLDS")
    static void p12_what_the_sail_holds_not_what_it_is_taken_for() {
        Run x = new Run().then("sail", 2).then("sail", 4).due(39, "taken", 0, 0).due(39, "taken", 0, 1).due(39, "taken", 0, 2);
        x.due(16, "taken", 1, 0).due(16, "taken", 1, 3).due(16, "taken", 1, 4);
    }

    @Sentence("BEYOND; NO: k (0 .. 4); KIND: it is none")
    static void p12_beyond_then_no_then_kind() {
        new Run().refused(BEYOND, "taken", 0, 0);
        Run x = Run.rich();
        for (int sail : new int[] {2, -1, LEAST, MOST}) x.refused(BEYOND, "taken", sail, 5);
        for (int k : new int[] {5, -1, LEAST, MOST}) x.refused(NO, "taken", 0, k);
        for (int k = 1; k < 5; k++) x.refused(KIND, "taken", 0, k);
        x.refused(KIND, "taken", 1, 1).refused(KIND, "taken", 1, 2);
    }

    @Sentence("One HAND more: its number. FULL.")
    static void p13_full_at_8_hands() {
        Run x = new Run();
        for (int hand = 0; hand < 8; hand++) x.due(hand, "hand");
        x.refused(FULL, "hand").refused(FULL, "hand").due(8, "count", 4);
    }

    @Sentence("A HAND is asleep from now on (asleep = 1) or awake (0): its TIREDNESS")
    static void p14_asleep_from_now_on() {
        Run x = Run.afloat(0).then("hand").then("stay", 3).due(3, "sleep", 0, 1).due(0, "boat", 5).due(3, "sleep", 0, 1)
            .due(0, "boat", 5);
        x.then("stay", 1).due(1, "sleep", 0, 0).due(1, "boat", 5).due(1, "sleep", 0, 0).due(1, "boat", 5).then("stay", 1)
            .due(2, "sleep", 0, 1);
    }

    @Sentence("BEYOND; NO.")
    static void p14_beyond_ahead_of_no() {
        new Run().refused(BEYOND, "sleep", 0, 0);
        Run x = Run.rich();
        for (int hand : new int[] {2, 7, 8, -1, LEAST, MOST}) x.refused(BEYOND, "sleep", hand, 2);
        for (int asleep : new int[] {2, -1, LEAST, MOST}) x.refused(NO, "sleep", 0, asleep).refused(NO, "sleep", 1, asleep);
    }

    // ---- 15 .. 19: rules

    @Sentence("THE TAPE gets the n lowest bytes of a number behind it, the highest of these first (n 0 .. 4): how many it has")
    static void p15_the_n_lowest_bytes_the_highest_first() {
        Run x = new Run().then("sail", 0);
        x.due(4, "feed", 0x67757374, 4).due(7, "feed", 0x7F203132, 3).due(9, "feed", 0xFFFF2B39, 2)
            .due(10, "feed", 0x2020202A, 1).due(11, "feed", -1 << 8 | '2', 1);
        x.due(11, "feed", 0x31313131, 0).due(0, "rule", 0, 12).due(12 + 9 * 2, "says", 10, 0, 0);
        x.due(1, "feed", -1, 1).due(-10, "rule", 0, 12).due(1, "wipe").due(0, "feed", 5, 0);
    }

    @Sentence("BELOW, NO: n; FULL")
    static void p15_below_then_no_then_full() {
        Run x = Run.rich();
        for (int n : new int[] {-1, LEAST}) x.refused(BELOW, "feed", 0, n);
        for (int n : new int[] {5, MOST}) x.refused(NO, "feed", 0, n);
        Run y = new Run();
        for (int i = 1; i <= 29; i++) y.due(4 * i, "feed", 0x20202020, 4);
        y.due(118, "feed", 0x2020, 2).refused(FULL, "feed", 0x202020, 3).refused(FULL, "feed", 0x20202020, 4)
            .due(120, "feed", 0x2020, 2);
        for (int n = 1; n <= 4; n++) y.refused(FULL, "feed", 0, n);
        y.due(120, "feed", 0, 0).refused(NO, "feed", 0, 5).refused(BELOW, "feed", 0, -1);
    }

    @Sentence("THE TAPE is empty: how many bytes it had")
    static void p16_wipe_an_empty_and_a_full_tape() {
        Run x = new Run().due(0, "wipe").type("x").due(1, "wipe").due(0, "wipe");
        for (int i = 0; i < 30; i++) x.call("feed", 0, 4);
        x.due(120, "wipe").due(0, "count", 6).due(4, "feed", 0, 4);
    }

    @Sentence("THE TAPE is a RULE: its number; THE TAPE is empty then")
    static void p17_the_tape_is_empty_behind_a_rule() {
        new Run().type("shut 1").due(0, "rule", 0, 12).due(0, "count", 6).due(-10, "rule", 0, 12).type("gust 2")
            .due(1, "rule", 0, 12).due(0, "wipe");
    }

    @Sentence("NO: HOURS (from is not ahead of to, or one beyond)")
    static void p17_no_hours_from_ahead_of_to_and_none_beyond() {
        Run x = Run.rich();
        int[][] bad = {{0, 0}, {5, 5}, {6, 5}, {12, 12}, {11, 11}, {-1, 0}, {-1, 12}, {0, 13}, {12, 13}, {LEAST, MOST}, {0, MOST}, {LEAST, 5}, {MOST, LEAST}};
        for (int[] b : bad) x.refused(NO, "rule", b[0], b[1]);
        x.due(6, "count", 6).due(2, "rule", 11, 12).type("gust 6").due(3, "rule", 0, 1);
    }

    @Sentence("FULL; -10 less the FAULT (THE TAPE stays)")
    static void p17_no_then_full_then_the_fault() {
        Run x = new Run().type("oops").due(-10, "rule", 0, 12).due(4, "count", 6).refused(NO, "rule", 3, 3)
            .due(-10, "rule", 0, 12).then("wipe");
        x.type("shut 1 1").due(-10 - 7, "rule", 0, 12).due(8, "count", 6);
        for (int r = 0; r < 12; r++) x.ruled("shut 0");
        x.type("oops").refused(FULL, "rule", 0, 12).refused(NO, "rule", 0, 13).due(4, "wipe").type("shut 1")
            .refused(FULL, "rule", 0, 12).due(6, "count", 6);
        for (int place = 0; place <= 120; place += 8) {
            Run y = new Run();
            for (int i = 0; i < place / 4; i++) y.call("feed", 0x20202020, 4);
            y.due(-10 - place, "rule", 0, 12).due(place, "count", 6).due(0, "status", NO);
        }
    }

    @Sentence("What a KEY (0 .. 2 as above) SAYS of a SAIL (of: 10 * key + SAIL) and a CELL in an HOUR")
    static void p18_keys_0_to_2_sails_cells_and_hours() {
        Run x = new Run().then("sail", 0).then("sail", 1).then("sail", 4).ruled("shut 100*sail + cell")
            .ruled("gust 100*sail + hour").ruled("tired 0 - sail");
        x.due(0, "says", 0, 0, 0).due(435, "says", 2, 35, 11).due(411, "says", 12, 35, 11).due(-4, "says", 22, 35, 11)
            .due(-1, "says", 21, 0, 0).due(100, "says", 11, 5, 0);
    }

    @Sentence("BEYOND: key, SAIL, CELL, HOUR: 0, and status() tells of it")
    static void p18_beyond_tells_0() {
        new Run().refused(BEYOND, "says", 0, 0, 0).refused(BEYOND, "says", 20, 0, 0);
        Run x = Run.rich();
        for (int of : new int[] {30, 31, 40, 2, 3, 9, 12, 22, 29, -1, -10, LEAST, MOST}) x.refused(BEYOND, "says", of, 0, 0);
        for (int cell : new int[] {36, -1, LEAST, MOST}) x.refused(BEYOND, "says", 10, cell, 0);
        for (int hour : new int[] {12, -1, LEAST, MOST}) x.refused(BEYOND, "says", 20, 0, hour);
        x.due(39, "says", 10, 0, 1).due(40, "says", 21, 35, 11);
        Run.rich().refused(BEYOND, "says", 30, 36, 12).refused(BEYOND, "says", 1, 36, 0);
    }

    @Sentence("Which RULE says it")
    static void p19_of_each_sail_cell_and_hour() {
        Run x = new Run().then("sail", 3).then("sail", 4).then("sail", 1).ruled("gust 1 if sail = 3").ruled("gust 2 if sail = 4")
            .ruled("gust 3 if sail = 1");
        for (int sail = 0; sail < 3; sail++) x.due(sail, "why", 10 + sail, 0, 0).due(NONE, "why", sail, 0, 0)
            .due(NONE, "why", 20 + sail, 0, 0);
        x.ruled("shut 0 if cell = 35").ruled("tired 0 if hour = 11").ruled("tired 1 if sail = 1 and row = 5")
            .due(3, "why", 2, 35, 0).due(NONE, "why", 2, 34, 0);
        x.due(4, "why", 20, 35, 11).due(NONE, "why", 20, 35, 10).due(5, "why", 22, 30, 11).due(4, "why", 22, 29, 11)
            .due(NONE, "why", 21, 30, 10);
    }

    @Sentence("Which RULE says it; NONE: none. BEYOND.")
    static void p19_none_without_a_rule_and_beyond() {
        new Run().refused(BEYOND, "why", 0, 0, 0);
        Run x = Run.rich().due(0, "why", 0, 0, 0).due(1, "why", 10, 0, 2).due(NONE, "why", 10, 0, 1).due(NONE, "why", 20, 0, 0)
            .due(1, "why", 11, 35, 11);
        for (int of : new int[] {30, 2, 12, 22, 29, -1, -10, LEAST, MOST}) x.refused(BEYOND, "why", of, 0, 0);
        for (int cell : new int[] {36, -1, LEAST, MOST}) x.refused(BEYOND, "why", 10, cell, 0);
        for (int hour : new int[] {12, -1, LEAST, MOST}) x.refused(BEYOND, "why", 20, 0, hour);
    }

    // ---- 20 .. 30: ways

    @Sentence("with CHANGE as now, from THE BOAT's STATE and TICK: the TICK")
    static void p20_with_change_as_now_from_the_boats_state_and_tick() {
        Run x = Run.ready().then("sail", 2).then("wind", 0, 4, 25).then("at", 1440, 100).due(100 + 9 + 4, "soonest", 0, 20, 1)
            .then("hand").due(100 + 2 + 4, "soonest", 0, 20, 1);
        x.ruled("tired 0").due(107, "soonest", 0, 20, 1).then("sleep", 0, 1).due(113, "soonest", 0, 20, 1)
            .due(100, "soonest", 0, 14, 1);
        x.then("at", 1440, 107).due(120, "soonest", 0, 20, 1).then("at", 1440, 108).due(NONE, "soonest", 0, 20, 1);
    }

    @Sentence("by MAKER's (table = 0) or LEARNT TABLE (1)")
    static void p20_by_makers_or_learnt_table() {
        Run x = Run.afloat(0);
        for (int i = 0; i < 3; i++) x.call("learn", 0, 0, 99);
        for (int angle = 0; angle < 5; angle++) x.call("speed", angle, 0, 10);
        x.due(10, "soonest", 0, 8, 0).due(2, "soonest", 0, 8, 1).due(10, "soonest", 6, 8, 0);
    }

    @Sentence("SOONEST in a WIND to a CELL, by MAKER's (table = 0) or LEARNT TABLE (1)")
    static void p20_each_wind_by_each_table_behind_each_other() {
        // CELLS 14 and 20 alone are no LAND; each WIND has an ANGLE and a BAND of its own, and so a SPEED in each TABLE
        int[] ticks = {2, 3, 4, 5, 6, 7, 8, 9, 10, 12, 13, 15, 17, 20};
        int[] speeds = {50, 34, 25, 20, 17, 15, 13, 12, 10, 9, 8, 7, 6, 5};
        Run x = new Run().then("sail", 0);
        for (int cell = 0; cell < 36; cell++) if (cell != 14 && cell != 20) x.call("cell", cell, 1, 0);
        for (int wind = 0; wind < 7; wind++) {
            int angle = 4 - wind % 5, band = wind / 5;
            x.then("wind", wind, wind % 5, 8 * band).then("speed", angle, band, speeds[2 * wind]);
            for (int i = 0; i < 3; i++) x.call("learn", angle, band, speeds[2 * wind + 1]);
        }
        x.call("at", 1440, 0);
        for (int one = 0; one < 14; one++)
            for (int other = 0; other < 14; other++) {
                x.due(ticks[one], "soonest", one / 2, 20, one % 2).due(ticks[other], "soonest", other / 2, 20, other % 2);
            }
    }

    @Sentence("NONE: it can't be")
    static void p20_none_where_it_can_not_be() {
        Run x = Run.afloat(0).then("cell", 35, 1, 0).due(NONE, "soonest", 0, 35, 1).due(NONE, "soonest", 6, 35, 0)
            .then("at", 1400, 120);
        for (int cell = 0; cell < 36; cell++) x.due(cell == 14 ? 120 : NONE, "soonest", 0, cell, 1);
    }

    @Sentence("MISSING: THE BOAT isn't put; BEYOND; NO.")
    static void p20_missing_then_beyond_then_no() {
        Run.ready().refused(MISSING, "soonest", 0, 0, 0).refused(MISSING, "soonest", 7, 36, 2);
        Run x = Run.rich();
        for (int wind : new int[] {7, -1, LEAST, MOST}) x.refused(BEYOND, "soonest", wind, 0, 2);
        for (int cell : new int[] {36, -1, LEAST, MOST}) x.refused(BEYOND, "soonest", 0, cell, 2);
        for (int table : new int[] {2, -1, LEAST, MOST}) x.refused(NO, "soonest", 6, 35, table);
    }

    @Sentence("how many STEPS (k = -1), HEADING and SAIL of STEP k as 10 * HEADING + SAIL")
    static void p21_how_many_steps_and_each_of_them() {
        Run x = Run.ready().then("sail", 0).then("at", 1471, 0).due(0, "plan", 0, 14, -1).due(2, "plan", 0, 0, -1)
            .due(71, "plan", 0, 0, 0).due(71, "plan", 0, 0, 1);
        x.then("at", 1, 0).due(1, "plan", 0, 6, -1).due(41, "plan", 0, 6, 0).then("at", 0, 0).due(40, "plan", 0, 6, 0);
        // by LEARNT TABLE: MAKER's can't go at all
        x = new Run().then("sail", 0).then("at", 1400, 0);
        for (int i = 0; i < 3; i++) x.call("learn", 0, 0, 50);
        x.due(1, "plan", 0, 8, -1).due(0, "plan", 0, 8, 0).due(2, "soonest", 0, 8, 1).due(NONE, "soonest", 0, 8, 0);
    }

    @Sentence("NONE: no PLAN, no such STEP")
    static void p21_none_without_a_plan_or_such_a_step() {
        Run x = Run.afloat(0).then("cell", 35, 1, 0);
        for (int k : new int[] {-1, 0, 1, MOST}) x.due(NONE, "plan", 0, 35, k);
        for (int k : new int[] {0, 1, MOST}) x.due(NONE, "plan", 0, 14, k);
        x.due(0, "plan", 0, 14, -1).due(2, "plan", 0, 2, -1).due(0, "plan", 0, 2, 1).due(NONE, "plan", 0, 2, 2)
            .due(NONE, "plan", 0, 2, 120).due(NONE, "plan", 0, 2, 121);
    }

    @Sentence("MISSING, BEYOND; NO: k below -1")
    static void p21_missing_then_beyond_then_no() {
        Run.ready().refused(MISSING, "plan", 0, 0, 0).refused(MISSING, "plan", 7, 36, -2);
        Run x = Run.rich();
        for (int wind : new int[] {7, -1, LEAST, MOST}) x.refused(BEYOND, "plan", wind, 0, -2);
        for (int cell : new int[] {36, -1, LEAST, MOST}) x.refused(BEYOND, "plan", 0, cell, -2);
        for (int k : new int[] {-2, LEAST}) x.refused(NO, "plan", 0, 0, k);
    }

    @Sentence("Two TELLINGS: the first one ahead. NO: TICKS.")
    static void p22_the_first_telling_ahead_and_no_ticks() {
        Run x = Run.rich().due(3, "telling", 0, 120).due(0, "telling", 120, 120).due(120, "telling", 5, 5);
        int[][] bad = {{-1, 0}, {0, -1}, {-1, -1}, {0, 121}, {121, 121}, {6, 5}, {120, 119}, {LEAST, 0}, {0, MOST}, {MOST, LEAST}, {5, LEAST}};
        for (int[] b : bad) x.refused(NO, "telling", b[0], b[1]);
        x.due(5, "telling", 0, 0);
    }

    @Sentence("A CHOICE is a CELL: the one ahead. BEYOND.")
    static void p23_the_cell_ahead_and_beyond() {
        Run x = Run.rich().due(20, "choice", 0, 0).due(0, "choice", 0, 35).due(27, "choice", 2, 35).due(22, "choice", 1, 1);
        for (int choice : new int[] {3, -1, LEAST, MOST}) x.refused(BEYOND, "choice", choice, 0);
        for (int cell : new int[] {36, -1, LEAST, MOST}) x.refused(BEYOND, "choice", 2, cell);
        x.due(35, "choice", 2, 0);
    }

    @Sentence("A WORLD is of a GROUP: the one ahead. BEYOND; NO.")
    static void p24_the_group_ahead_beyond_and_no() {
        Run x = Run.rich().due(1, "group", 1, 2).due(2, "group", 1, 0).due(0, "group", 5, 2).due(2, "group", 5, 2);
        for (int world : new int[] {6, -1, LEAST, MOST}) x.refused(BEYOND, "group", world, 3);
        for (int group : new int[] {3, -1, LEAST, MOST}) x.refused(NO, "group", 5, group);
    }

    @Sentence("COMES of two CHOICES (as 10 * c + q) in a WORLD")
    static void p25_two_choices_in_one_number() {
        Run x = Run.afloat(0).then("mark", 8).then("choice", 0, 8).then("choice", 1, 20).then("choice", 2, 14);
        // to CELL 20 a TURN of 4 and 2 TICKS, and back to CELL 8 another TURN of 4 and two STEPS
        x.due(2, "comes", 0, 0).due(2, "comes", 20, 0).due(2, "comes", 22, 0).due(6 + 4 + 4, "comes", 10, 0)
            .due(2 + 4 + 4 + 4 + 4, "comes", 1, 0).due(2, "comes", 2 * 10, 5);
    }

    @Sentence("MISSING: THE BOAT; BEYOND: CHOICES, WORLD")
    static void p25_missing_then_beyond() {
        Run.ready().then("wind", 0, 0, 0).refused(MISSING, "comes", 0, 0).refused(MISSING, "comes", 33, 6);
        Run x = Run.rich();
        for (int choices : new int[] {3, 9, 13, 23, 29, 30, 33, 99, 100, -1, -10, -11, LEAST, MOST}) x.refused(BEYOND, "comes", choices, 0);
        for (int world : new int[] {6, -1, LEAST, MOST}) x.refused(BEYOND, "comes", 22, world);
    }

    @Sentence("TREE by an AIM: the first CHOICE (what = 0), what the AIM is (1)")
    static void p26_the_first_choice_and_what_the_aim_is() {
        // from CELL 14 to CELL 2 by CELL 8: 4 TICKS; WORLD 0 alone is TOLD, with WEIGHT 1, then 2
        Run x = Run.afloat(0).then("wind", 0, 0, 0).then("mark", 2).then("choice", 2, 8);
        for (int aim = 0; aim < 3; aim++) x.due(2, "tree", aim, 0).due(2, "tree", aim, 2);
        x.due(4, "tree", 0, 1).due(4, "tree", 1, 1).due(0, "tree", 2, 1).then("wind", 6, 0, 0).due(8, "tree", 0, 1)
            .due(4, "tree", 1, 1).due(0, "tree", 2, 1);
        x.then("cell", 2, 1, 0).due(2 * 999, "tree", 0, 1).due(999, "tree", 1, 1).due(0, "tree", 2, 1);
    }

    @Sentence("the second CHOICE of GROUP 0 .. 2 (2 .. 4; NONE: it has no TOLD WORLD)")
    static void p26_none_for_a_group_without_a_told_world() {
        for (int aim = 0; aim < 3; aim++) {
            Run x = Run.afloat(0).then("wind", 1, 0, 0).then("group", 0, 1).due(0, "tree", aim, 2).due(NONE, "tree", aim, 3)
                .due(NONE, "tree", aim, 4);
            x.then("wind", 110, 0, 0).due(0, "tree", aim, 3).due(NONE, "tree", aim, 4).then("wind", 5, 0, 0).then("group", 5, 2)
                .due(0, "tree", aim, 4);
            x.then("group", 1, 1).due(NONE, "tree", aim, 2).due(0, "tree", aim, 3).due(0, "tree", aim, 4);
        }
    }

    @Sentence("PLACES times WEIGHTS together (5)")
    static void p26_places_times_weights_of_told_worlds() {
        Run x = Run.afloat(0).then("wind", 0, 0, 0).then("wind", 5, 0, 0).due(2, "tree", 0, 5).then("wind", 6, 0, 0)
            .due(4, "tree", 0, 5);
        x.then("rival", 0, 5, 0).due(2 * 1 + 2 * 2, "tree", 0, 5).then("rival", 0, 4, 0).due(6, "tree", 1, 5)
            .due(6, "tree", 2, 5);
    }

    @Sentence("MISSING: THE BOAT, no WORLD is TOLD; NO.")
    static void p26_missing_then_no() {
        Run.ready().then("wind", 0, 0, 0).refused(MISSING, "tree", 0, 0).refused(MISSING, "tree", 3, 6);
        Run.afloat(0).then("wind", 6, 0, 0).refused(MISSING, "tree", 0, 0).refused(MISSING, "tree", -1, -1);
        Run x = Run.rich();
        for (int aim : new int[] {3, -1, LEAST, MOST}) x.refused(NO, "tree", aim, 0);
        for (int what : new int[] {6, -1, LEAST, MOST}) x.refused(NO, "tree", 2, what);
    }

    @Sentence("WORTH of the first TELLING. MISSING: THE BOAT, no WORLD is TOLD.")
    static void p27_missing_boat_or_told_world() {
        Run.ready().then("wind", 0, 0, 0).refused(MISSING, "worth").then("at", 1400, 0).due(0, "worth");
        Run.afloat(0).refused(MISSING, "worth").then("wind", 116, 0, 0).refused(MISSING, "worth").then("wind", 115, 0, 0)
            .due(0, "worth");
    }

    @Sentence("WEIGHT of a WORLD. BEYOND.")
    static void p28_beyond_the_worlds() {
        Run x = Run.rich().due(1, "weight", 5);
        for (int world : new int[] {6, 7, -1, LEAST, MOST}) x.refused(BEYOND, "weight", world);
    }

    @Sentence("A RIVAL comes at a TICK (0 .. 999) in a WORLD: the one ahead. BEYOND; NO.")
    static void p29_the_tick_ahead_beyond_and_no() {
        Run x = Run.rich().due(44, "rival", 2, 3, 0).due(0, "rival", 2, 3, 999).due(999, "rival", 2, 3, 999)
            .due(999, "rival", 3, 2, 5).due(999, "rival", 5, 5, 121);
        for (int bad : new int[] {6, -1, LEAST, MOST}) x.refused(BEYOND, "rival", bad, 0, 1000)
            .refused(BEYOND, "rival", 0, bad, -1);
        for (int tick : new int[] {1000, -1, LEAST, MOST}) x.refused(NO, "rival", 5, 5, tick);
    }

    private static Run laid(int... numbers) {
        Run x = new Run().then("lay", numbers.length);
        for (int i = 0; i < numbers.length; i++) x.call("set", i, numbers[i]);
        return x;
    }

    @Sentence("THE ROW is a game (4 numbers: 2 rows by 2; 9: 3 by 3; each -999 .. 999)")
    static void p30_games_at_their_ends() {
        laid(999, 999, 999, 999).due(999000, "game");
        laid(-999, -999, -999, -999).due(-999000, "game");
        laid(-999, 999, 999, -999).due(0, "game");
        laid(0, 0, 0, 0).due(0, "game");
        laid(0, 0, 0, 0, 0, 0, 0, 0, 0).due(0, "game");
        laid(999, -999, -999, -999, 999, -999, -999, -999, 999).due(-333000, "game");
        laid(-999, 999, 999, 999, -999, 999, 999, 999, -999).due(333000, "game");
        // rows are the first one's: two alike, and a column that is worse than all others
        laid(1, 5, 1, 5).due(1000, "game");
        laid(1, 1, 5, 5).due(5000, "game");
        laid(3, 3, 3, 3, 3, 3, 3, 3, 3).due(3000, "game");
        laid(9, 9, 1, 9, 9, 2, 9, 9, 0).due(2000, "game");
    }

    @Sentence("what the one who chooses rows (and wants much)")
    static void p30_who_chooses_rows_wants_much() {
        // without a mix: the greatest of the least of each row, where that is the least of the greatest of each column
        laid(5, 7, 4, 9).due(5000, "game");
        laid(4, 9, 5, 7).due(5000, "game");
        laid(5, 4, 7, 9).due(7000, "game");
        laid(1, 2, 3, 4, 5, 6, 7, 8, 9).due(7000, "game");
        laid(9, 8, 7, 6, 5, 4, 3, 2, 1).due(7000, "game");
        laid(1, 4, 7, 2, 5, 8, 3, 6, 9).due(3000, "game");
        laid(0, -999, 999, 0, 1, 0, 0, -999, -999).due(0, "game");
    }

    @Sentence("can be sure of by mixing, thousandths, rounded down")
    static void p30_thousandths_rounded_down() {
        // (ad - bc) / (a + d - b - c): -1 by 3, 1 by 3, 2 by 3, -2 by 3, 0, and 1 by 1999 below and above 0
        laid(0, -1, -1, 1).due(-334, "game");
        laid(0, 1, 1, -1).due(333, "game");
        laid(2, 0, 0, 1).due(666, "game");
        laid(-2, 0, 0, -1).due(-667, "game");
        laid(999, -998, -999, 998).due(0, "game");
        laid(1, -1, -999, 998).due(-1, "game");
        laid(1, -1, -998, 999).due(0, "game");
        laid(1, 0, 0, 0, 1, 0, 0, 0, 1).due(333, "game");
        laid(-1, 0, 0, 0, -1, 0, 0, 0, -1).due(-334, "game");
        laid(2, 0, 0, 0, 2, 0, 0, 0, 2).due(666, "game");
        // all three rows mixed: 6 by 11, 338 by 271, 538 by 285, -276 by 131, -57 by 37, 49 by 220, -14 by 81
        laid(1, 0, 0, 0, 2, 0, 0, 0, 3).due(545, "game");
        laid(8, -2, -1, -7, 8, -2, -1, 0, 7).due(1247, "game");
        laid(0, 4, 2, 7, -8, 9, 9, -3, -4).due(1887, "game");
        laid(-5, -2, 6, 3, -8, -6, -4, 3, -6).due(-2107, "game");
        laid(1, -6, 1, -7, -8, 6, -5, 7, -7).due(-1541, "game");
        laid(2, 1, -3, -5, 0, 7, 8, -7, 0).due(222, "game");
        laid(-7, 5, 0, 7, 8, -7, -1, -6, 3).due(-173, "game");
        // 870504 by 1248749, 124875 by 1119007
        laid(999, -998, 997, -999, 999, -500, 3, 2, -999).due(697, "game");
        laid(0, 999, -999, -998, 0, 997, 996, -995, 1).due(111, "game");
        laid(0, 999, 998, 1).due(499500, "game");
    }

    @Sentence("MISSING: THE ROW; KIND: it has another size: 0; NO: a number: 0, and status() tells of it")
    static void p30_missing_then_kind_then_no_tell_0() {
        new Run().refused(MISSING, "game").then("lay", 4).due(0, "game").then("tear").refused(MISSING, "game");
        for (int n : new int[] {0, 1, 2, 3, 5, 6, 7, 8, 10, 11, 12}) new Run().then("lay", n).refused(KIND, "game");
        new Run().then("lay", 5).then("set", 0, 1000).refused(KIND, "game");
        for (int bad : new int[] {1000, -1000, LEAST, MOST}) {
            for (int i = 0; i < 9; i++) {
                new Run().then("lay", 9).then("set", i, bad).refused(NO, "game");
                if (i < 4) new Run().then("lay", 4).then("set", i, bad).refused(NO, "game");
            }
        }
    }

    // ---- 31 .. 40: the voyage

    @Sentence("THE BOAT is put (again) into a CELL with a HEADING, a WHOLE SAIL up (where: 100 * CELL + 10 * HEADING + SAIL), at a TICK: its STATE's number")
    static void p31_put_and_put_again() {
        Run x = Run.ready().then("sail", 1).due(0, "at", 0, 0).due(3 * (8 * 35 + 7) + 1, "at", 3571, 120);
        int[] want = {35, 7, 1, 120};
        for (int what = 0; what < 4; what++) x.due(want[what], "boat", what);
        x.due(3 * 8 * 9, "at", 900, 3).due(3, "boat", 3).due(9, "boat", 0).due(0, "boat", 1).due(0, "boat", 2);
    }

    @Sentence("BEYOND: CELL, HEADING, SAIL; KIND: the CELL is LAND; NO: the SAIL is TORN, TICK")
    static void p31_beyond_then_kind_then_no() {
        new Run().refused(BEYOND, "at", 0, 0);
        Run x = Run.rich();
        for (int where : new int[] {3600, 9900, 80, 90, 780, 2, 9, 702, 772, 3572, -1, -100, -1400, LEAST, MOST}) x.refused(BEYOND, "at", where, 121);
        x.refused(KIND, "at", 700, 0).refused(KIND, "at", 771, 121).refused(KIND, "at", 711, -1);
        for (int tick : new int[] {121, -1, LEAST, MOST}) x.refused(NO, "at", 1400, tick);
        Run y = torn().then("cell", 7, 1, 0);
        y.refused(NO, "at", 1400, 0).refused(NO, "at", 1400, 121).refused(KIND, "at", 700, 0).refused(BEYOND, "at", 1401, 0)
            .then("mend", 0).due(336, "at", 1400, 0);
    }

    @Sentence("THE BOAT waits n TICKS (1 .. 60): the TICK then")
    static void p32_waits_1_to_60() {
        Run.afloat(0).due(1, "stay", 1).due(61, "stay", 60).due(120, "stay", 59).due(120, "boat", 3).due(14, "boat", 0);
    }

    @Sentence("MISSING: THE BOAT; BELOW, NO; FULL: it would be above 120")
    static void p32_missing_then_below_then_no_then_full() {
        Run.ready().refused(MISSING, "stay", 1).refused(MISSING, "stay", -1).refused(MISSING, "stay", 61);
        Run x = Run.rich();
        for (int n : new int[] {-1, -60, LEAST}) x.refused(BELOW, "stay", n);
        for (int n : new int[] {0, 61, 120, MOST}) x.refused(NO, "stay", n);
        x.then("at", 1400, 100).refused(FULL, "stay", 21).refused(FULL, "stay", 60).refused(NO, "stay", 61)
            .refused(BELOW, "stay", -1).due(120, "stay", 20);
        x.refused(FULL, "stay", 1).refused(NO, "stay", 0);
    }

    @Sentence("THE BOAT goes (in THE TRUTH, by LEARNT TABLE)")
    static void p33_in_the_truth_by_learnt_table() {
        Run x = Run.afloat(0).then("wind", 0, 0, 25).then("speed", 0, 0, 0);
        for (int i = 0; i < 3; i++) x.call("learn", 0, 0, 25);
        x.due(4, "go", 0).then("wind", 6, 0, 25).refused(NO, "go", 0);
    }

    @Sentence("THE BOAT goes (in THE TRUTH, by LEARNT TABLE)")
    static void p33_with_the_sail_that_is_up() {
        // FORCE 30 is too much for SAIL 0, but not for SAIL 1, a STORM of PACE 22
        Run x = Run.ready().then("sail", 2).then("wind", 6, 4, 30).then("at", 1400, 0).refused(NO, "go", 0);
        x.then("at", 1401, 0).due(5, "go", 0);
        x.ruled("gust 29 if sail = 0").then("at", 1401, 0).due(5, "go", 0);
        x.ruled("shut sail = 0").then("at", 1401, 0).due(5, "go", 0);
        x.ruled("gust 29 if sail = 2").then("at", 1401, 0).refused(NO, "go", 0);
        x.ruled("gust 30 if sail = 2").due(5, "go", 0).ruled("shut sail = 2").refused(NO, "go", 0);
    }

    @Sentence("TURN to a HEADING (none, if it has it), then STEP, which begins at once: the TICK then")
    static void p33_no_turn_if_it_has_the_heading_and_no_wait() {
        Run x = Run.afloat(0).due(2, "go", 0).due(0, "boat", 1).due(6, "go", 7).due(7, "boat", 1).due(1, "boat", 0)
            .due(2, "count", 9);
        // the STEP begins in HOUR 1, behind the TURN, and doesn't wait for HOUR 2
        x = Run.afloat(8).ruled("shut 1", 1, 2).refused(NO, "go", 2).refused(NO, "go", 4).due(12, "go", 1).then("at", 1400, 18)
            .due(22, "go", 2);
        x.due(2, "count", 9);
    }

    @Sentence("MISSING; BEYOND: HEADING")
    static void p33_missing_then_beyond() {
        Run.ready().refused(MISSING, "go", 0).refused(MISSING, "go", 8);
        Run x = Run.rich();
        for (int heading : new int[] {8, -1, LEAST, MOST}) x.refused(BEYOND, "go", heading);
    }

    @Sentence("NO: it can't begin then (also as the SAIL would be TORN by then)")
    static void p33_no_if_the_sail_would_be_torn_by_then() {
        torn().refused(NO, "go", 0).refused(NO, "go", 1);
        // FORCE 25 in HOUR 1 alone: a TURN through it tears the SAIL, one that ends as it begins or begins as it ends doesn't
        Run x = Run.ready().then("wind", 16, 0, 25).then("wind", 26, 0, 0);
        x.then("at", 1400, 18).refused(NO, "go", 2).then("at", 1400, 19).refused(NO, "go", 1).then("at", 1400, 20)
            .due(24, "go", 1);
        x.then("at", 1400, 7).due(11, "go", 1).due(1, "sailOf", 0, 2);
        x = Run.ready().then("wind", 16, 0, 25).then("wind", 26, 0, 0).then("at", 1400, 8).refused(NO, "go", 2).due(12, "go", 1)
            .due(1, "sailOf", 0, 2);
        x = Run.ready().then("wind", 16, 0, 25).then("at", 1400, 8).due(10, "go", 0).due(0, "sailOf", 0, 2).refused(NO, "go", 0)
            .refused(NO, "go", 1);
    }

    @Sentence("or would end behind TICK 120")
    static void p33_no_if_it_would_end_behind_tick_120() {
        Run x = Run.afloat(118).refused(NO, "go", 1).due(120, "go", 0).refused(NO, "go", 0).refused(NO, "go", 4);
        x.then("at", 1400, 116).due(120, "go", 1).then("at", 1400, 117).refused(NO, "go", 1).refused(NO, "go", 4)
            .then("at", 1400, 119).refused(NO, "go", 0);
        x.then("at", 1400, 114).due(120, "go", 4).then("at", 1400, 115).refused(NO, "go", 4);
    }

    @Sentence("CHANGE to another SAIL: the TICK then")
    static void p34_change_to_another_sail() {
        Run.ready().then("sail", 1).then("at", 1400, 0).due(9, "raise", 1).due(1, "boat", 2).then("hand").due(11, "raise", 0)
            .due(0, "boat", 2).due(14, "boat", 0);
    }

    @Sentence("MISSING; BEYOND; NO: it is up, TORN; FULL: it would be above 120")
    static void p34_missing_then_beyond_then_no_then_full() {
        Run.ready().then("sail", 1).refused(MISSING, "raise", 1).refused(MISSING, "raise", 3);
        Run x = Run.rich();
        for (int sail : new int[] {2, -1, LEAST, MOST}) x.refused(BEYOND, "raise", sail);
        x.refused(NO, "raise", 0).then("at", 1400, 119).refused(NO, "raise", 0).refused(FULL, "raise", 1).then("at", 1400, 118)
            .due(120, "raise", 1);
        Run y = torn().then("sail", 1).refused(NO, "raise", 0).then("raise", 1).refused(NO, "raise", 0).refused(NO, "raise", 1)
            .then("at", 1401, 120);
        y.refused(NO, "raise", 0).refused(NO, "raise", 1);
        Run z = Run.ready().then("sail", 1).then("at", 1400, 111).due(120, "raise", 1).then("at", 1400, 112)
            .refused(FULL, "raise", 1);
        z.then("hand").due(114, "raise", 1);
    }

    @Sentence("A TORN SAIL is mended: 12 TICKS go by: the TICK then")
    static void p35_mended_by_12_ticks() {
        Run x = torn().then("hand").due(13, "mend", 0).due(0, "sailOf", 0, 2).due(12, "boat", 7).due(0, "count", 3)
            .due(15, "go", 0);
        x = torn().then("sail", 4).then("raise", 1).then("wind", 16, 0, 17).due(10 + 12, "mend", 0).due(0, "sailOf", 0, 2)
            .due(1, "sailOf", 1, 2);
    }

    @Sentence("MISSING: THE BOAT; BEYOND; NO: it isn't TORN; FULL.")
    static void p35_missing_then_beyond_then_no_then_full() {
        Run.ready().refused(MISSING, "mend", 0).refused(MISSING, "mend", 3);
        Run x = Run.rich();
        for (int sail : new int[] {2, -1, LEAST, MOST}) x.refused(BEYOND, "mend", sail);
        x.refused(NO, "mend", 0).refused(NO, "mend", 1).then("at", 1400, 120).refused(NO, "mend", 0).refused(BEYOND, "mend", 2);
        torn().then("sail", 1).then("at", 1401, 109).refused(FULL, "mend", 0).refused(NO, "mend", 1).then("at", 1401, 108)
            .due(120, "mend", 0).refused(NO, "mend", 0);
    }

    @Sentence("CELL (what = 0), HEADING (1), SAIL that is up (2), TICK (3), CHANGE as now (4), HANDS awake (5), TIRED ones awake (6), TIREDNESS of all (7)")
    static void p36_what_0_to_7() {
        Run x = Run.ready().then("sail", 1).then("hand").then("hand").then("at", 3571, 41).then("stay", 40).then("sleep", 0, 1)
            .then("stay", 1);
        int[] want = {35, 7, 1, 82, 3, 1, 1, 38 + 41};
        for (int what = 0; what < 8; what++) x.due(want[what], "boat", what);
        int[] none = {0, 0, 0, 0, 9, 0, 0, 0};
        Run y = Run.ready().then("at", 0, 0);
        for (int what = 0; what < 8; what++) y.due(none[what], "boat", what);
    }

    @Sentence("MISSING, NO.")
    static void p36_missing_then_no() {
        Run.ready().then("hand").refused(MISSING, "boat", 0).refused(MISSING, "boat", 7).refused(MISSING, "boat", 8);
        Run x = Run.rich();
        for (int what : new int[] {8, -1, LEAST, MOST}) x.refused(NO, "boat", what);
    }

    @Sentence("SHARE of WINDS (what = 0), TABLE (1), HANDS (2), SAILED with none put right (3), with all (4)")
    static void p37_what_0_to_4() {
        // MAKER's goes straight on, which truly takes 100; LEARNT goes round by 9 or 7
        Run x = Run.afloat(0).then("mark", 8);
        for (int i = 0; i < 3; i++) x.call("learn", 0, 0, 1);
        x.due(0, "lost", 0, 0).due(6 * (100 - 9), "lost", 0, 1).due(0, "lost", 0, 2).due(100, "lost", 0, 3).due(9, "lost", 0, 4);
        x.due(100, "lost", 5, 3).then("speed", 0, 0, 1).due(0, "lost", 0, 1).due(9, "lost", 0, 3);
    }

    @Sentence("MISSING: THE BOAT; BEYOND; NO.")
    static void p37_missing_then_beyond_then_no() {
        Run.ready().refused(MISSING, "lost", 0, 0).refused(MISSING, "lost", 6, 5);
        Run x = Run.rich();
        for (int world : new int[] {6, -1, LEAST, MOST}) x.refused(BEYOND, "lost", world, 5);
        for (int what : new int[] {5, -1, LEAST, MOST}) x.refused(NO, "lost", 5, what);
    }

    @Sentence("CELLS that are LAND (what = 0), HOURS that are told of all WINDS (1)")
    static void p38_land_and_told_hours() {
        Run x = new Run();
        for (int cell = 0; cell < 36; cell++) x.then("cell", cell, 1, 0).due(cell + 1, "count", 0);
        x.then("cell", 9, 0, 0).then("cell", 9, 0, 90).due(35, "count", 0);
        for (int i = 0; i < 84; i++) x.call("wind", 10 * (i / 7) + i % 7, 0, 0);
        x.due(84, "count", 1).then("wind", 0, 1, 1).due(84, "count", 1).due(6, "count", 8);
        new Run().then("wind", 6, 0, 0).due(1, "count", 1).due(0, "count", 8);
    }

    @Sentence("SAILS (2), TORN ones (3), HANDS (4), RULES (5), bytes of THE TAPE (6), OWN ROWS of all (7), TOLD WORLDS (8)")
    static void p38_counts_2_to_8() {
        Run x = torn().then("sail", 1).then("sail", 4).then("hand").then("hand").ruled("shut 0").type("gust 12");
        x.then("learn", 0, 0, 0).then("learn", 0, 0, 0).then("learn", 4, 4, 99).then("wind", 110, 0, 0);
        int[] want = {0, 2, 3, 1, 2, 1, 7, 3, 1};
        for (int what = 0; what < 9; what++) x.due(want[what], "count", what);
        x.then("mend", 0).due(0, "count", 3).then("sleep", 0, 1).due(2, "count", 4);
    }

    @Sentence("STEPS that THE BOAT went (9), THE MARK (10), whether THE BOAT is put (11)")
    static void p38_steps_mark_and_put() {
        Run x = Run.ready().due(0, "count", 9).due(35, "count", 10).due(0, "count", 11).then("at", 1400, 0).due(0, "count", 9)
            .due(1, "count", 11);
        x.then("go", 0).due(1, "count", 9).then("stay", 5).due(1, "count", 9).then("go", 2).due(2, "count", 9);
        x.then("go", 0).due(3, "count", 9).refused(NO, "go", 0).due(3, "count", 9).then("mark", 0).due(0, "count", 10);
    }

    @Sentence("NO: 0, and status() tells of it")
    static void p38_no_tells_0() {
        Run x = Run.rich();
        for (int what : new int[] {12, -1, LEAST, MOST}) x.refused(NO, "count", what);
    }

    @Sentence("All is kept (but THE ROW, THE TAPE, status()): THE BOAT's TICK (0, if it isn't put)")
    static void p39_all_is_kept_but_row_tape_and_status() {
        new Run().due(0, "image").then("sail", 0).due(0, "image");
        Run.afloat(120).due(120, "image").then("at", 1400, 7).due(7, "image").due(7, "back");
        Run x = Run.ready().then("lay", 2).then("set", 1, 5).type("abc").then("sail", 9).due(0, "image");
        x.then("lay", 3).then("set", 2, 6).type("d").then("sail", 9).due(0, "back").due(6, "row", 2).due(0, "row", 1)
            .due(4, "count", 6).due(2, "status", NO);
        x.then("tear").then("wipe").due(0, "back").due(0, "tear").due(0, "wipe");
    }

    @Sentence("All is again as it was kept: THE BOAT's TICK then")
    static void p40_all_is_again_as_it_was_kept() {
        Run x = Run.rich().due(13, "boat", 3).due(15, "boat", 0).due(5, "back").due(5, "boat", 3).due(14, "boat", 0);
        x.then("stay", 9).then("hand").then("wind", 116, 7, 39).due(5, "back").due(2, "count", 4).due(0, "blows", 116, 0, 3)
            .due(5, "boat", 3);
        // the last image counts, and going back doesn't use it up
        x.then("stay", 1).due(6, "image").then("stay", 2).due(6, "back").then("stay", 3).due(6, "back").due(6, "back");
        new Run().due(0, "image").then("sail", 0).then("at", 0, 9).due(0, "back").due(0, "count", 11).due(0, "count", 2)
            .refused(MISSING, "boat", 3);
    }

    /** All that can be told and done otherwise, but for THE ROW and THE TAPE. */
    private static Run changed(Run x) {
        x.then("cell", 0, 1, 5).then("cell", 7, 0, 0).then("cell", 21, 1, 90).then("wind", 0, 5, 39).then("wind", 116, 7, 30)
            .then("wind", 6, 3, 39).then("wind", 31, 1, 1);
        x.then("mark", 5).then("speed", 2, 1, 99).then("speed", 0, 0, 1).then("learn", 2, 1, 99).then("learn", 2, 1, 0)
            .then("learn", 0, 0, 1).then("sail", 2).then("hand");
        x.then("sleep", 0, 1).then("sleep", 1, 0).ruled("gust 3").ruled("shut cell").ruled("tired 1", 0, 5).type("gust 5")
            .then("telling", 50, 60);
        x.then("choice", 0, 1).then("choice", 1, 2).then("choice", 2, 30).then("group", 1, 2).then("group", 5, 1)
            .then("rival", 2, 3, 5).then("rival", 5, 5, 7);
        x.then("mend", 0).then("stay", 1).then("raise", 2).then("wind", 6, 3, 0).then("at", 3532, 50).ruled("shut 0")
            .ruled("gust 39").type("gust 5");
        return x.then("go", 7).then("go", 0).then("raise", 1).then("stay", 20);
    }

    @Sentence("All is again as it was kept")
    static void p40_nothing_tells_it_from_what_was_kept() {
        Run.alike(Run.rich().then("image"), changed(Run.rich().then("image")).then("back"), "back() behind changes");
        Run.alike(Run.rich().then("image"), changed(changed(Run.rich().then("image")).then("back")).then("back"), "back() twice");
        // with a TORN SAIL and with rules that come again under the same numbers
        Run.alike(torn().then("image"), changed(torn().then("image")).then("wipe").then("back"), "back() to a TORN SAIL");
        Run.alike(torn().then("image").ruled("gust 7 if cell").then("sail", 3).then("hand"),
            changed(torn().then("image")).then("back").ruled("gust 7 if cell").then("sail", 3)
                .then("hand"), "what comes behind back()");
        // nothing of a longer RULE is left where a shorter one comes behind back()
        Run y = new Run().then("sail", 0).then("image").ruled("gust not 5").ruled("tired -7 if not 0").then("back").ruled("gust 5").ruled("tired 7 if 1");
        y.due(5, "says", 10, 0, 0).due(7, "says", 20, 0, 0).due(0, "why", 10, 0, 0).due(1, "why", 20, 0, 0);
        // a WORLD that isn't TOLD again
        Run x = Run.afloat(0).then("wind", 0, 0, 0).then("image").then("wind", 1, 0, 0).due(2, "tree", 0, 5).due(0, "back")
            .due(1, "tree", 0, 5).due(1, "count", 8);
        x.then("at", 1400, 9).then("mark", 8).due(11, "lost", 0, 3).then("back").then("mark", 8).due(2, "lost", 0, 3);
    }

    @Sentence("MISSING.")
    static void p40_missing_without_an_image() {
        new Run().refused(MISSING, "back");
        Run.afloat(5).refused(MISSING, "back").due(5, "boat", 3);
    }

    // ---- 41 .. 46: rows

    @Sentence("THE ROW becomes n numbers, all 0 (n 0 .. 12): n")
    static void p41_0_to_12_numbers_all_0() {
        Run x = new Run();
        for (int n = 0; n <= 12; n++) {
            x.due(n, "lay", n).due(n == 0 ? 0 : n, "copy", 0, 0, n);
            for (int i = 0; i < n; i++) x.due(0, "row", i).due(0, "set", i, 7);
        }
        x.due(12, "lay", 12).due(0, "row", 11).due(0, "lay", 0).due(1, "tear");
    }

    @Sentence("BELOW, NO.")
    static void p41_below_and_no() {
        for (Run x : new Run[] {new Run(), Run.rich()}) {
            for (int n : new int[] {-1, LEAST}) x.refused(BELOW, "lay", n);
            for (int n : new int[] {13, MOST}) x.refused(NO, "lay", n);
        }
    }

    @Sentence("Number i of THE ROW becomes v: the one before")
    static void p42_the_number_before() {
        Run x = new Run().then("lay", 12).due(0, "set", 11, LEAST).due(LEAST, "set", 11, MOST).due(MOST, "set", 11, 0)
            .due(0, "set", 0, 5).due(5, "set", 0, 5);
        x.due(0, "row", 1).due(5, "row", 0);
    }

    @Sentence("MISSING: 0; BEYOND: 0, and status() tells of it")
    static void p42_missing_then_beyond_tell_0() {
        new Run().refused(MISSING, "set", 0, 1).refused(MISSING, "set", -1, 1).refused(MISSING, "set", 12, 1).then("lay", 0)
            .refused(BEYOND, "set", 0, 1);
        Run x = Run.rich();
        for (int i : new int[] {5, 12, -1, LEAST, MOST}) x.refused(BEYOND, "set", i, 9);
        x.due(0, "set", 4, 9).then("tear").refused(MISSING, "set", 4, 9);
    }

    @Sentence("THE ROW is missing: 1 if it was there, else 0 (at first it is missing)")
    static void p43_1_if_the_row_was_there() {
        new Run().due(0, "tear").then("lay", 0).due(1, "tear").due(0, "tear").then("lay", 12).due(1, "tear").due(0, "tear")
            .refused(MISSING, "row", 0);
        new Run().then("lay", 13).due(0, "tear");
    }

    @Sentence("Number i of THE ROW. MISSING: 0; BEYOND: 0, and status() tells of it")
    static void p44_missing_then_beyond_tell_0() {
        new Run().refused(MISSING, "row", 0).refused(MISSING, "row", -1).then("lay", 0).refused(BEYOND, "row", 0);
        Run x = Run.rich().due(7, "row", 2).due(0, "row", 4);
        for (int i : new int[] {5, 12, -1, LEAST, MOST}) x.refused(BEYOND, "row", i);
        // what a longer row had there is gone
        new Run().then("lay", 12).then("set", 5, 9).then("lay", 5).refused(BEYOND, "row", 5).then("lay", 6).due(0, "row", 5);
    }

    private static void rowIs(Run x, int... numbers) {
        for (int i = 0; i < numbers.length; i++) x.due(numbers[i], "row", i);
        x.refused(BEYOND, "row", numbers.length);
    }

    @Sentence("n numbers of THE ROW, from place i on, come to place j on (as they were): n")
    static void p45_numbers_come_as_they_were() {
        Run x = laid(1, 2, 3, 4, 5).due(4, "copy", 0, 1, 4);
        rowIs(x, 1, 1, 2, 3, 4);
        x = laid(1, 2, 3, 4, 5).due(4, "copy", 1, 0, 4);
        rowIs(x, 2, 3, 4, 5, 5);
        x = laid(1, 2, 3, 4, 5).due(5, "copy", 0, 0, 5).due(0, "copy", 5, 5, 0).due(0, "copy", 5, 0, 0).due(0, "copy", 0, 5, 0)
            .due(1, "copy", 4, 0, 1);
        rowIs(x, 5, 2, 3, 4, 5);
        new Run().then("lay", 0).due(0, "copy", 0, 0, 0);
        new Run().then("lay", 12).then("set", 0, 8).due(11, "copy", 0, 1, 11).due(0, "row", 11).due(1, "copy", 0, 11, 1)
            .due(8, "row", 11).due(12, "copy", 0, 0, 12);
    }

    @Sentence("MISSING; BELOW: n; COPY: i or j below 0, i + n or j + n above how many there are")
    static void p45_missing_then_below_then_copy() {
        new Run().refused(MISSING, "copy", 0, 0, 0).refused(MISSING, "copy", -1, 0, -1);
        Run x = laid(1, 2, 3, 4, 5);
        for (int n : new int[] {-1, LEAST}) x.refused(BELOW, "copy", 0, 0, n).refused(BELOW, "copy", -1, 9, n);
        int[][] bad = {{-1, 0, 1}, {0, -1, 1}, {-1, 0, 0}, {0, -1, 0}, {0, 1, 5}, {1, 0, 5}, {0, 0, 6}, {6, 0, 0}, {0, 6, 0}, {5, 0, 1}, {0, 5, 1},
            {MOST, 0, 1}, {0, MOST, 1}, {1, 0, MOST}, {0, 1, MOST}, {MOST, MOST, MOST}, {LEAST, 0, 0}, {0, LEAST, 0}, {MOST, 0, 0}, {LEAST, LEAST, MOST}};
        for (int[] b : bad) x.refused(COPY, "copy", b[0], b[1], b[2]);
        rowIs(x, 1, 2, 3, 4, 5);
        new Run().then("lay", 0).refused(COPY, "copy", 0, 0, 1);
    }

    @Sentence("How many calls were refused by an answer -2 .. -8 (of those that tell 0 by what they tell)")
    static void p46_how_many_were_refused_by_each_answer() {
        Run x = new Run();
        for (int by = FULL; by <= MISSING; by++) x.due(0, "status", by);
        x.then("boat", 0).then("row", 0).then("game").due(3, "status", MISSING).then("mark", 36).then("says", 0, 0, 0)
            .due(2, "status", BEYOND);
        x.then("lay", -1).then("feed", 0, -1).due(2, "status", BELOW).then("lay", 5).then("game").due(1, "status", KIND)
            .then("sail", 0).then("taken", 0, 1).due(2, "status", KIND);
        x.then("copy", 0, 0, 6).due(1, "status", COPY).then("count", 12).then("sail", 7).due(2, "status", NO).then("sail", 0)
            .then("sail", 0).then("sail", 0).due(1, "status", FULL);
        x.due(3, "status", MISSING).due(2, "status", BEYOND).due(2, "status", BELOW).due(2, "status", KIND)
            .due(1, "status", COPY).due(2, "status", NO).due(1, "status", FULL);
        // answers that happen to be such a number refuse nothing, nor does a FAULT
        x.ruled("tired 0 - 5").due(-5, "says", 20, 0, 0).then("lay", 4).then("set", 0, -7).due(-7, "row", 0)
            .due(-7, "set", 0, -8).type("oops").due(-10, "rule", 0, 12);
        x.due(3, "status", MISSING).due(2, "status", KIND).due(2, "status", NO).due(1, "status", FULL);
    }

    @Sentence("NO: another number.")
    static void p46_no_of_another_number() {
        Run x = Run.rich();
        for (int by : new int[] {-1, 0, 1, -9, -10, 8, LEAST, MOST}) x.refused(NO, "status", by);
        x.due(8, "status", NO);
    }
}
