/** Boundary cases of the sea, winds, tables, sails, hands and acts: parts 0, 1 and 2 of the document. */
final class PartEdges {
    private static final int NONE = Run.NONE, BEYOND = Run.BEYOND, NO = Run.NO, FULL = Run.FULL;

    private PartEdges() {
    }

    // ---- part 0: what it is

    @Sentence("THE SEA has 36 CELLS (6 rows of 6")
    static void part0_36_cells_in_6_rows() {
        Run x = new Run().then("sail", 0).ruled("tired row");
        for (int cell = 0; cell < 36; cell++) x.due(0, "cell", cell, 0, 0);
        int[][] rows = {{0, 0}, {5, 0}, {6, 1}, {29, 4}, {30, 5}, {35, 5}};
        for (int[] r : rows) x.due(r[1], "says", 20, r[0], 0);
        x.refused(BEYOND, "cell", 36, 0, 0).refused(BEYOND, "cell", -1, 0, 0);
    }

    @Sentence("An object is used for at most 512 calls after it has been made")
    static void part0_the_512th_call_answers() {
        Run x = new Run();
        for (int hand = 0; hand < 8; hand++) x.due(hand, "hand");
        for (int call = 9; call <= 511; call++) x.due(FULL, "hand");
        x.due(511 - 8, "status", FULL);
    }

    // ---- part 1: the sea, winds, tables

    @Sentence("CELL is 6 times the row, and the column")
    static void part1_a_cell_is_6_times_the_row_and_the_column() {
        Run x = new Run().then("sail", 0).ruled("tired cell - 6 * row");
        for (int cell = 0; cell < 36; cell++) x.due(new int[] {0, 1, 2, 3, 4, 5}[cell % 6], "says", 20, cell, 0);
    }

    @Sentence("each LAND or not (not at first)")
    static void part1_no_cell_is_land_at_first() {
        Run x = new Run().due(0, "count", 0);
        for (int cell = 0; cell < 36; cell++) x.due(0, "cell", cell, 1, 0);
        x.due(36, "count", 0);
    }

    @Sentence("with SHELTER (0 .. 90; 0 at first)")
    static void part1_shelter_0_to_90_and_0_at_first() {
        Run x = new Run().then("wind", 0, 0, 39).then("sail", 0).ruled("tired shelter");
        for (int cell = 0; cell < 36; cell++) x.due(39, "blows", 0, cell, 2).due(0, "says", 20, cell, 0);
        x.due(0, "cell", 35, 0, 90).due(90, "says", 20, 35, 0);
        x.refused(NO, "cell", 35, 0, 91).refused(NO, "cell", 35, 0, -1);
        x.due(90, "says", 20, 35, 0).due(0, "cell", 35, 0, 0).due(0, "says", 20, 35, 0);
    }

    @Sentence("0 to the row above (a lesser one), then clockwise by eighths (2 to the next column, 4 to the row below)")
    static void part1_headings_go_clockwise_from_the_row_above() {
        int[] beside = {8, 9, 15, 21, 20, 19, 13, 7};
        Run x = Run.ready();
        for (int h = 0; h < 8; h++) x.then("at", 1400 + 10 * h, 0).then("go", h).due(beside[h], "boat", 0);
    }

    @Sentence("BESIDE a CELL in a HEADING lies the next one there, or none")
    static void part1_beside_an_edge_lies_none_and_rows_do_not_wrap_around() {
        int[][] by = {{-1, 0}, {-1, 1}, {0, 1}, {1, 1}, {1, 0}, {1, -1}, {0, -1}, {-1, -1}};
        for (int cell = 0; cell < 36; cell++) {
            Run x = Run.ready();
            for (int h = 0; h < 8; h++) {
                int row = cell / 6 + by[h][0], column = cell % 6 + by[h][1];
                boolean is = row >= 0 && row < 6 && column >= 0 && column < 6;
                x.then("at", 100 * cell + 10 * h, 0).due(is ? 2 + h % 2 : NO, "go", h)
                    .due(is ? 6 * row + column : cell, "boat", 0);
            }
        }
        Run.afloat(0).then("at", 540, 0).due(NONE, "plan", 0, 5, 0).refused(NO, "go", 2).refused(NO, "go", 0);
    }

    @Sentence("MILES of a STEP: 10 by an even HEADING, 14 by an odd one")
    static void part1_miles_10_by_an_even_heading_14_by_an_odd_one() {
        Run x = Run.ready();
        for (int angle = 0; angle < 5; angle++) x.call("speed", angle, 0, 10);
        for (int h = 0; h < 8; h++) x.then("at", 1400 + 10 * h, 0).due(h % 2 == 0 ? 10 : 14, "go", h);
    }

    @Sentence("TICKS 0 .. 120")
    static void part1_ticks_0_to_120() {
        Run x = Run.ready().due(336, "at", 1400, 0).due(0, "boat", 3).due(336, "at", 1400, 120).due(120, "boat", 3);
        x.refused(NO, "at", 1400, 121).refused(NO, "at", 1400, -1).refused(NO, "telling", -1, 0).refused(NO, "telling", 0, 121);
        x.due(0, "telling", 120, 120).due(120, "telling", 0, 0);
    }

    @Sentence("HOUR of a TICK: by 10, cut (0 .. 11; of 120: 11)")
    static void part1_hour_of_a_tick_and_of_tick_120() {
        for (int hour = 0; hour < 12; hour++) {
            Run x = Run.ready().then("hand").ruled("tired 0 if hour = " + hour);
            for (int tick = 0; tick <= 120; tick++) {
                boolean is = tick == 120 ? hour == 11 : tick >= 10 * hour && tick <= 10 * hour + 9;
                x.then("at", 1400, tick).due(is ? 1 : 0, "boat", 6);
            }
        }
    }

    @Sentence("WINDS 0 .. 6: WORLDS 0 .. 5, and 6 THE TRUTH")
    static void part1_winds_0_to_6_worlds_0_to_5() {
        Run x = Run.afloat(0);
        for (int wind = 0; wind < 7; wind++) x.due(NONE, "wind", wind, 0, 5).due(2, "soonest", wind, 8, 1)
            .due(1, "plan", wind, 8, -1);
        for (int world = 0; world < 6; world++) {
            x.due(0, "group", world, 0).due(999, "rival", 0, world, 999).due(3, "weight", world);
        }
        x.refused(BEYOND, "wind", 7, 0, 0).refused(BEYOND, "blows", 7, 0, 0).refused(BEYOND, "soonest", 7, 0, 0)
            .refused(BEYOND, "plan", 7, 0, 0);
        x.refused(BEYOND, "group", 6, 0).refused(BEYOND, "comes", 0, 6).refused(BEYOND, "weight", 6)
            .refused(BEYOND, "rival", 0, 6, 0);
        x.refused(BEYOND, "lost", 6, 0);
    }

    @Sentence("for each HOUR FROM (0 .. 7, as HEADINGS) and FORCE (0 .. 39)")
    static void part1_from_0_to_7_and_force_0_to_39() {
        Run x = new Run().due(NONE, "wind", 0, 0, 0).due(0, "wind", 0, 7, 39).due(7, "blows", 0, 0, 0).due(39, "blows", 0, 0, 1);
        x.refused(NO, "wind", 0, 8, 0).refused(NO, "wind", 0, -1, 0).refused(NO, "wind", 0, 0, 40).refused(NO, "wind", 0, 0, -1);
        x.due(39, "wind", 0, 0, 0).due(0, "blows", 0, 0, 0);
    }

    @Sentence("told or not; of an HOUR that isn't: as in the last one ahead of it that is")
    static void part1_an_hour_that_is_not_told_is_as_the_last_one_ahead() {
        Run x = new Run().then("wind", 0, 5, 7).then("wind", 101, 2, 30).then("wind", 40, 3, 0).then("wind", 110, 6, 39);
        for (int hour = 0; hour < 12; hour++) {
            int from = hour < 4 ? 5 : hour < 11 ? 3 : 6, force = hour < 4 ? 7 : hour < 11 ? 0 : 39;
            x.due(from, "blows", 10 * hour, 0, 0).due(force, "blows", 10 * hour, 0, 1);
            x.due(hour == 0 || hour == 4 || hour == 11 ? 1 : 0, "blows", 10 * hour, 0, 3);
        }
    }

    @Sentence("without one: FROM 0, FORCE 0")
    static void part1_without_a_told_hour_ahead_from_0_force_0() {
        Run x = new Run().then("wind", 115, 5, 7);
        for (int hour = 0; hour < 11; hour++) for (int what = 0; what < 4; what++) x.due(0, "blows", 10 * hour + 5, 0, what);
        x.due(5, "blows", 115, 0, 0).due(7, "blows", 115, 0, 1).due(0, "blows", 116, 0, 1);
    }

    @Sentence("A WORLD is TOLD, if one of its HOURS is")
    static void part1_a_world_is_told_by_one_hour_even_the_last_of_force_0() {
        Run x = Run.afloat(0).then("wind", 6, 0, 10).due(0, "count", 8).refused(Run.MISSING, "worth")
            .refused(Run.MISSING, "tree", 0, 0);
        x.then("wind", 115, 0, 0).due(1, "count", 8).due(0, "worth").due(0, "tree", 0, 0);
        x.then("wind", 105, 0, 0).due(1, "count", 8).then("wind", 0, 0, 0).due(2, "count", 8);
    }

    @Sentence("FORCE in a CELL: FORCE times 100 less SHELTER by 100, cut")
    static void part1_force_in_a_cell_is_cut() {
        int[][] cases = {{39, 90, 3}, {39, 0, 39}, {39, 1, 38}, {1, 1, 0}, {10, 90, 1}, {9, 90, 0}, {0, 90, 0}, {39, 50, 19}, {29, 10, 26}};
        Run x = new Run();
        for (int[] c : cases) x.then("wind", 0, 0, c[0]).then("cell", 8, 0, c[1]).due(c[2], "blows", 0, 8, 2)
            .due(c[0], "blows", 0, 8, 1);
    }

    @Sentence("ANGLE of a HEADING to FROM: how many eighths they are apart the shorter way (0 .. 4)")
    static void part1_angle_is_the_shorter_way_round() {
        int[] angles = {0, 1, 2, 3, 4, 3, 2, 1};
        int[] even = {10, 5, 4, 3, 2};
        int[] odd = {14, 7, 6, 5, 3};
        int[] speeds = {10, 20, 25, 34, 50};
        Run x = Run.ready();
        for (int angle = 0; angle < 5; angle++) x.call("speed", angle, 0, speeds[angle]);
        for (int from = 0; from < 8; from++) {
            x.call("wind", 6, from, 0);
            for (int h = 0; h < 8; h++) {
                int angle = angles[(h - from + 8) % 8];
                x.then("at", 1400 + 10 * h, 0).due(h % 2 == 0 ? even[angle] : odd[angle], "go", h);
            }
        }
    }

    @Sentence("BAND: FORCE in the CELL by 8, cut (0 .. 4)")
    static void part1_band_is_force_in_the_cell_by_8() {
        int[] speeds = {10, 20, 40, 60, 80};
        int[] ticks = {25, 12, 6, 4, 3};
        Run x = Run.rigged(2);
        for (int band = 0; band < 5; band++) x.call("speed", 4, band, speeds[band]);
        for (int force = 0; force < 40; force++) {
            int band = force <= 7 ? 0 : force <= 15 ? 1 : force <= 23 ? 2 : force <= 31 ? 3 : 4;
            x.then("wind", 6, 0, force).then("at", 1440, 0).due(ticks[band], "go", 4);
        }
        x.then("cell", 14, 0, 50).then("at", 1440, 0).due(6, "go", 4);
        x.then("cell", 14, 0, 0).then("cell", 20, 0, 90).then("at", 1440, 0).due(3, "go", 4);
    }

    @Sentence("MAKER's TABLE: SPEED (0 .. 99; 0 at first) for each ANGLE and BAND")
    static void part1_speed_0_to_99_and_0_at_first() {
        Run x = new Run();
        for (int i = 0; i < 25; i++) x.due(0, "table", i / 5, i % 5, 0).due(0, "speed", i / 5, i % 5, 99);
        for (int i = 0; i < 25; i++) x.due(99, "table", i / 5, i % 5, 0).due(99, "speed", i / 5, i % 5, 0);
        x.refused(NO, "speed", 0, 0, 100).refused(NO, "speed", 0, 0, -1);
    }

    @Sentence("LEARNT TABLE: where there are 3 OWN ROWS or more, their mean (cut), else MAKER's")
    static void part1_learnt_from_3_own_rows_on() {
        Run x = Run.afloat(0).then("speed", 0, 0, 20);
        x.then("learn", 0, 0, 50).then("learn", 0, 0, 50).due(20, "table", 0, 0, 1).due(5, "soonest", 0, 8, 1);
        x.then("learn", 0, 0, 52).due(50, "table", 0, 0, 1).due(2, "soonest", 0, 8, 1).due(5, "soonest", 0, 8, 0);
        x.due(50, "table", 0, 1, 1).due(50, "table", 1, 0, 1).then("learn", 0, 0, 47).due(49, "table", 0, 0, 1).due(3, "go", 0);
        x = new Run().then("speed", 1, 1, 9);
        for (int i = 0; i < 3; i++) x.call("learn", 1, 1, 0);
        x.due(0, "table", 1, 1, 1).due(9, "table", 1, 1, 0);
    }

    // ---- part 2: sails, hands, acts

    @Sentence("SAILS 0 .. 2 as they come")
    static void part2_sails_0_to_2_as_they_come() {
        Run x = new Run().refused(BEYOND, "sailOf", 0, 0).due(0, "sail", 4).due(1, "sail", 4).refused(BEYOND, "sailOf", 2, 0)
            .due(2, "sail", 0);
        x.refused(FULL, "sail", 0).due(4, "sailOf", 0, 0).due(4, "sailOf", 1, 0).due(0, "sailOf", 2, 0)
            .refused(BEYOND, "sailOf", 3, 0);
        // ways with all three of them, from the STATE of the greatest number: with KITE 5 TICKS, with the others 3
        x = Run.ready().then("sail", 1).then("sail", 4).due(863, "at", 3572, 0).then("mark", 28).due(5, "soonest", 0, 28, 1)
            .due(72, "plan", 0, 28, 0);
        x.due(5, "lost", 0, 3).due(5, "lost", 0, 4).due(842, "at", 3502, 0).due(6, "soonest", 0, 28, 1).due(72, "plan", 0, 28, 0)
            .due(6, "lost", 0, 3);
        x.due(851, "at", 3532, 0).due(9, "lost", 0, 3).due(9, "go", 7).due(28, "boat", 0).due(863, "at", 3572, 0).then("hand")
            .due(5, "soonest", 0, 28, 1).due(70, "plan", 0, 28, 0);
    }

    @Sentence("of KINDS 0 SAIL, 1 JIB under SAIL, 2 STORM under JIB, 3 RUNNER under SAIL, 4 KITE under RUNNER")
    static void part2_kinds_0_to_4_and_what_is_under_what() {
        String[] above = {"0", "01", "012", "03", "034"};
        int[] holds = {24, 28, 39, 20, 16};
        for (int kind = 0; kind < 5; kind++) {
            Run x = new Run().then("sail", kind);
            for (int k = 0; k < 5; k++) {
                if (above[kind].indexOf('0' + k) >= 0) x.due(holds[kind], "taken", 0, k);
                else x.refused(Run.KIND, "taken", 0, k);
            }
        }
        new Run().refused(NO, "sail", 5).refused(NO, "sail", -1);
    }

    private static void paces(int kind, int[][] cases) {
        Run x = new Run().then("sail", kind);
        for (int[] c : cases) x.due(c[2], "pace", 0, c[0], c[1]);
        for (int angle = 0; angle < 5; angle++) x.due(0, "pace", 0, angle, 0);
    }

    @Sentence("PACE with a SAIL, s the SPEED by a TABLE: SAIL s")
    static void part2_pace_with_a_sail_is_the_speed() {
        paces(0, new int[][] {{0, 1, 1}, {4, 1, 1}, {0, 99, 99}, {2, 99, 99}, {3, 99, 99}, {4, 99, 99}});
    }

    @Sentence("JIB 11 tenths of SAIL's, if ANGLE is below 3, else 9 tenths (cut)")
    static void part2_jib_below_angle_3_and_from_it_on() {
        paces(1, new int[][] {{2, 1, 1}, {3, 1, 0}, {0, 9, 9}, {2, 9, 9}, {3, 9, 8}, {4, 9, 8}, {2, 10, 11}, {3, 10, 9}, {2, 99, 108}, {3, 99, 89}});
    }

    @Sentence("STORM half of JIB's (cut)")
    static void part2_storm_is_half_of_jibs_cut() {
        paces(2, new int[][] {{2, 1, 0}, {2, 2, 1}, {3, 2, 0}, {2, 9, 4}, {3, 9, 4}, {2, 10, 5}, {3, 10, 4}, {0, 99, 54}, {4, 99, 44}});
    }

    @Sentence("RUNNER 12 tenths of SAIL's, if ANGLE is above 2, else half of it (cut)")
    static void part2_runner_above_angle_2_and_up_to_it() {
        paces(3, new int[][] {{2, 1, 0}, {3, 1, 1}, {0, 9, 4}, {2, 9, 4}, {3, 9, 10}, {4, 9, 10}, {2, 99, 49}, {3, 99, 118}});
    }

    @Sentence("KITE 13 tenths of RUNNER's (cut)")
    static void part2_kite_is_cut_behind_the_cut_of_the_runner() {
        paces(4, new int[][] {{2, 1, 0}, {3, 1, 1}, {2, 9, 5}, {3, 9, 13}, {2, 99, 63}, {4, 99, 153}, {3, 4, 5}});
    }

    @Sentence("HOLDS: SAIL 24; JIB 4 more than SAIL; STORM 11 more than JIB; RUNNER 4 less than SAIL; KITE 4 less than RUNNER")
    static void part2_holds_just_so_much_and_no_more() {
        int[] holds = {24, 28, 39, 20, 16};
        for (int kind = 0; kind < 5; kind++) {
            Run x = Run.rigged(kind).due(holds[kind], "sailOf", 0, 1).then("wind", 6, 0, holds[kind]).then("at", 1440, 0);
            x.due(1, "stay", 1).due(0, "sailOf", 0, 2).then("go", 4).due(20, "boat", 0).due(0, "sailOf", 0, 2);
            if (kind == 2) continue;
            x.then("at", 1440, 0).then("wind", 6, 0, holds[kind] + 1).refused(NO, "go", 4).due(0, "sailOf", 0, 2);
            x.due(1, "stay", 1).due(1, "sailOf", 0, 2);
        }
    }

    @Sentence("HANDS 0 .. 7 as they come, awake (at first) or asleep, TIREDNESS 0 at first")
    static void part2_hands_0_to_7_awake_and_not_tired_at_first() {
        Run x = Run.afloat(0);
        for (int hand = 0; hand < 8; hand++) {
            x.refused(BEYOND, "sleep", hand, 0).due(hand, "hand").due(hand + 1, "boat", 5).due(0, "boat", 7);
        }
        x.refused(FULL, "hand").refused(BEYOND, "sleep", 8, 0);
        for (int hand = 0; hand < 8; hand++) x.due(0, "sleep", hand, 0);
        x.then("stay", 9).due(72, "boat", 7);
        Run late = Run.afloat(0).then("hand").then("stay", 5).then("hand").due(0, "sleep", 1, 0).due(5, "boat", 7);
        late.then("stay", 1).due(6, "sleep", 0, 0).due(1, "sleep", 1, 0);
    }

    @Sentence("as a TICK goes by it is 1 more of who is awake, 2 less (not below 0) of who is asleep")
    static void part2_tiredness_is_not_below_0() {
        Run x = Run.afloat(0).then("hand").then("hand").then("sleep", 1, 1).due(3, "stay", 3);
        x.due(3, "sleep", 0, 1).due(0, "sleep", 1, 0).due(4, "stay", 1).due(1, "sleep", 0, 1).due(1, "sleep", 1, 0);
        x.due(5, "stay", 1).due(0, "sleep", 0, 1).due(6, "stay", 1).due(0, "sleep", 0, 0).due(3, "sleep", 1, 1);
        x.due(7, "stay", 1).due(1, "sleep", 0, 0).due(1, "sleep", 1, 1).due(60 + 7, "stay", 60).due(61, "sleep", 0, 0)
            .due(0, "sleep", 1, 0);
    }

    @Sentence("TIRED: TIREDNESS is at least what tired SAYS")
    static void part2_tired_from_just_what_tired_says_on() {
        Run x = Run.afloat(0).then("hand").then("stay", 39).due(0, "boat", 6).due(2, "boat", 4).then("stay", 1).due(1, "boat", 6)
            .due(3, "boat", 4);
        x.ruled("tired 41").due(0, "boat", 6).ruled("tired 40").due(1, "boat", 6).ruled("tired 0 - 1").due(1, "boat", 6);
        x = Run.afloat(0).then("hand").ruled("tired 0").due(1, "boat", 6).ruled("tired 1").due(0, "boat", 6).then("stay", 1)
            .due(1, "boat", 6);
    }

    @Sentence("CHANGE of a SAIL takes 2 TICKS and as many as HANDS are awake and TIRED; 9, if none is awake")
    static void part2_change_takes_2_to_10_and_9_if_none_is_awake() {
        Run x = Run.ready().then("sail", 1).then("at", 1400, 0).due(9, "boat", 4).due(9, "raise", 1);
        x.then("hand").due(2, "boat", 4).due(11, "raise", 0).then("sleep", 0, 1).due(9, "boat", 4).due(20, "raise", 1);
        x.ruled("tired 0").due(9, "boat", 4).then("sleep", 0, 0).due(3, "boat", 4).due(23, "raise", 0);
        for (int hand = 1; hand < 8; hand++) x.then("hand").due(3 + hand, "boat", 4);
        x.due(33, "raise", 1).then("sleep", 0, 1).due(9, "boat", 4).due(7, "boat", 6);
        for (int hand = 1; hand < 7; hand++) x.call("sleep", hand, 1);
        x.due(3, "boat", 4).ruled("tired 99").due(2, "boat", 4).then("sleep", 7, 1).due(9, "boat", 4);
    }

    @Sentence("its number: 3 times (8 times CELL and HEADING), and SAIL")
    static void part2_numbers_of_states_0_to_863() {
        Run x = new Run().then("sail", 0).then("sail", 0).then("sail", 0);
        int[][] cases = {{0, 0}, {1, 1}, {2, 2}, {10, 3}, {72, 23}, {100, 24}, {3500, 840}, {3572, 863}};
        for (int[] c : cases) x.due(c[1], "at", c[0], 0);
    }

    @Sentence("TURN to another HEADING: as many TICKS as eighths the shorter way")
    static void part2_a_turn_goes_the_shorter_way_round() {
        int[] apart = {0, 1, 2, 3, 4, 3, 2, 1};
        Run x = Run.ready();
        for (int from = 0; from < 8; from++) {
            for (int to = 0; to < 8; to++) {
                x.then("at", 1400 + 10 * from, 0).due(apart[(to - from + 8) % 8] + 2 + to % 2, "go", to);
            }
        }
        x.then("at", 1470, 0).due(3, "soonest", 0, 8, 1).then("at", 1400, 0).due(4, "soonest", 0, 7, 1)
            .due(6, "soonest", 0, 20, 1);
    }

    @Sentence("CHANGE to another SAIL (one that is there)")
    static void part2_a_change_only_to_a_sail_that_is_there() {
        Run x = Run.rigged(4).then("wind", 0, 0, 17).then("at", 1440, 0).due(NONE, "soonest", 0, 20, 1)
            .refused(BEYOND, "raise", 1);
        x.then("sail", 0).due(9 + 2, "soonest", 0, 20, 1).due(41, "plan", 0, 20, 0).refused(BEYOND, "raise", 2);
    }

    @Sentence("STEP: to the CELL BESIDE in HEADING, if that isn't LAND")
    static void part2_no_step_to_land_but_away_from_it() {
        Run x = Run.afloat(0).then("cell", 8, 1, 0).refused(NO, "go", 0).due(NONE, "soonest", 0, 8, 1)
            .due(NONE, "plan", 0, 8, -1);
        x.then("cell", 14, 1, 0).due(4, "go", 2).due(NONE, "soonest", 0, 14, 1);
        x.then("cell", 8, 0, 0).then("cell", 14, 0, 0).then("at", 1400, 0).due(2, "go", 0);
    }

    @Sentence("shut SAYS 0 of it in the HOUR in which it begins")
    static void part2_shut_by_all_but_0_and_in_the_hour_of_the_beginning() {
        for (String e : new String[] {"1", "-1", "99999", "0 - 99999 * 21475"}) {
            Run.afloat(0).ruled("shut " + e + " if cell = 8").refused(NO, "go", 0).due(NONE, "soonest", 0, 8, 1).due(4, "go", 2);
        }
        Run.afloat(0).ruled("shut 0 if cell = 8").due(2, "soonest", 0, 8, 1).due(2, "go", 0);
        Run.afloat(0).ruled("shut cell = 14").due(2, "go", 0).then("at", 840, 0).refused(NO, "go", 4);
        Run x = Run.afloat(9).ruled("shut cell = 8", 1, 2).due(11, "soonest", 0, 8, 1).due(11, "go", 0);
        x.then("at", 1400, 10).due(22, "soonest", 0, 8, 1).refused(NO, "go", 0).then("at", 1400, 19).refused(NO, "go", 0);
        x.then("at", 1400, 20).due(22, "go", 0).then("at", 1470, 9).refused(NO, "go", 0).then("at", 1470, 8).due(11, "go", 0);
        x.then("at", 1470, 18).refused(NO, "go", 0).then("at", 1470, 19).due(22, "go", 0);
    }

    @Sentence("FORCE in the CELL that is left is then at most HOLDS and what gust SAYS")
    static void part2_force_at_most_holds_and_at_most_what_gust_says() {
        Run x = Run.afloat(0).then("wind", 6, 0, 10).ruled("gust 9").refused(NO, "go", 0).due(NONE, "soonest", 6, 8, 1);
        x.ruled("gust 10").due(2, "soonest", 6, 8, 1).due(2, "go", 0);
        x = Run.afloat(0).then("wind", 6, 0, 10).ruled("gust 9 if cell = 8").due(2, "go", 0).refused(NO, "go", 0);
        x = Run.afloat(0).ruled("gust 0").due(2, "soonest", 6, 8, 1).ruled("gust -1").due(NONE, "soonest", 6, 8, 1)
            .refused(NO, "go", 0);
        x = Run.afloat(0).then("wind", 6, 0, 25).ruled("gust 99").due(NONE, "soonest", 6, 8, 1).refused(NO, "go", 0);
        x.then("cell", 8, 0, 90).refused(NO, "go", 0).then("cell", 14, 0, 4).due(2, "soonest", 6, 8, 1).due(2, "go", 0);
        x = Run.afloat(9).then("wind", 16, 0, 25).due(11, "soonest", 6, 8, 1).then("at", 1400, 10).due(NONE, "soonest", 6, 8, 1);
        x.then("wind", 26, 0, 24).due(22, "soonest", 6, 8, 1);
    }

    @Sentence("and PACE (by TABLE, ANGLE, BAND in the CELL that is left, then) is above 0")
    static void part2_no_step_with_pace_0() {
        Run x = Run.rigged(1).then("at", 1440, 0);
        for (int angle = 0; angle < 5; angle++) x.call("speed", angle, 0, 1);
        x.due(NONE, "soonest", 0, 20, 1).refused(NO, "go", 4).then("speed", 4, 0, 2).due(100, "soonest", 0, 20, 1)
            .due(100, "go", 4);
        x = Run.afloat(0);
        for (int angle = 0; angle < 5; angle++) x.call("speed", angle, 0, 0);
        x.refused(NO, "go", 0).due(NONE, "soonest", 0, 8, 1).due(0, "soonest", 0, 14, 1).then("wind", 10, 0, 8)
            .due(12, "soonest", 0, 8, 1);
        for (int i = 0; i < 3; i++) x.call("learn", 0, 0, 1);
        x.due(12, "soonest", 0, 8, 1).due(12, "soonest", 0, 8, 0).due(100, "go", 0);
    }

    @Sentence("it takes 10 times MILES by PACE TICKS, rounded up")
    static void part2_ticks_of_a_step_are_rounded_up() {
        int[][] even = {{99, 2}, {51, 2}, {50, 2}, {49, 3}, {34, 3}, {33, 4}, {25, 4}, {20, 5}, {10, 10}, {1, 100}};
        int[][] odd = {{99, 2}, {70, 2}, {69, 3}, {47, 3}, {46, 4}, {35, 4}, {14, 10}, {2, 70}};
        Run x = Run.ready();
        // a way round CELL 20 takes 9 TICKS
        for (int[] c : even) x.then("speed", 4, 0, c[0]).then("at", 1440, 0).due(Math.min(c[1], 9), "soonest", 6, 20, 0)
            .due(c[1], "go", 4);
        for (int[] c : odd) x.then("speed", 3, 0, c[0]).then("at", 1430, 0).due(c[1], "go", 3);
        x = Run.rigged(3);
        x.then("speed", 4, 0, 83).then("at", 1440, 0).due(2, "go", 4).then("speed", 4, 0, 84).then("at", 1440, 0).due(1, "go", 4);
        x.then("speed", 4, 0, 99).then("at", 1440, 0).due(1, "go", 4);
        x.then("at", 40, 0).then("mark", 30).due(5, "soonest", 0, 30, 1).due(5, "plan", 0, 30, -1).due(5, "lost", 0, 3);
        for (int k = 0; k < 5; k++) x.due(40, "plan", 0, 30, k);
        x.then("at", 40, 115).due(120, "soonest", 0, 30, 1).due(120, "lost", 0, 3).then("at", 40, 116)
            .due(NONE, "soonest", 0, 30, 1);
        x = Run.rigged(4);
        x.then("speed", 3, 0, 89).then("at", 1430, 0).due(2, "go", 3).then("speed", 3, 0, 90).then("at", 1430, 0).due(1, "go", 3);
    }

    @Sentence("An ACT begins at any TICK (one may wait ahead of it), and ends by TICK 120 at the latest")
    static void part2_an_act_may_wait_and_ends_by_tick_120() {
        Run x = Run.afloat(118).due(120, "soonest", 0, 8, 1).due(1, "plan", 0, 8, -1).due(NONE, "soonest", 0, 7, 1);
        x.then("at", 1400, 119).due(NONE, "soonest", 0, 8, 1).due(NONE, "plan", 0, 8, -1).refused(NO, "go", 0);
        x.then("at", 1410, 117).due(120, "soonest", 0, 9, 1).due(120, "soonest", 0, 8, 1).then("at", 1410, 118)
            .due(NONE, "soonest", 0, 8, 1);
        x.then("at", 1400, 120).due(120, "soonest", 0, 14, 1).due(NONE, "soonest", 0, 8, 1).refused(NO, "go", 0);
        x = Run.afloat(0).ruled("shut hour < 11").due(112, "soonest", 0, 8, 1).refused(NO, "go", 0).then("speed", 0, 0, 10);
        for (int land : new int[] {7, 9, 13, 15}) x.call("cell", land, 1, 0);
        x.due(120, "soonest", 0, 8, 1).then("speed", 0, 0, 9).due(NONE, "soonest", 0, 8, 1);
        x = Run.afloat(0).then("speed", 0, 0, 1).then("wind", 10, 4, 0);
        for (int land : new int[] {7, 9, 13, 15}) x.call("cell", land, 1, 0);
        x.due(12, "soonest", 0, 8, 1).due(1, "plan", 0, 8, -1);
    }

    @Sentence("TORN SAILS aren't there (with one that is up no STEP begins, till another one is up)")
    static void part2_torn_sails_are_not_there() {
        Run x = Run.ready().then("wind", 6, 0, 25).then("at", 1400, 0).then("stay", 1).due(1, "sailOf", 0, 2)
            .then("wind", 6, 0, 0);
        x.due(NONE, "soonest", 6, 8, 1).due(1, "soonest", 6, 14, 1).due(NONE, "plan", 6, 8, 0).due(0, "plan", 6, 14, -1)
            .refused(NO, "go", 0);
        x.then("sail", 1).due(1 + 9 + 2, "soonest", 6, 8, 1).due(1, "plan", 6, 8, 0).due(1 + 9, "raise", 1).due(12, "go", 0);
        x.refused(NO, "raise", 0).refused(NO, "at", 1400, 0);
        x.then("wind", 6, 0, 29).then("stay", 1).due(2, "count", 3).then("wind", 6, 0, 0).due(NONE, "soonest", 6, 2, 1);
        x.then("mend", 0).due(25 + 9 + 2, "soonest", 6, 2, 1).due(0, "plan", 6, 2, 0);
        Run y = Run.ready().then("sail", 2).then("wind", 6, 0, 25).then("at", 1400, 0).then("stay", 1).then("raise", 1);
        for (int angle = 0; angle < 5; angle++) y.call("speed", angle, 0, 2);
        y.then("wind", 6, 0, 0).due(10 + 100, "soonest", 6, 8, 1).due(1, "plan", 6, 8, 0);
    }

    @Sentence("for each STATE the least TICK (its LABEL) at which it can be; to a CELL: the least of its STATES'")
    static void part2_soonest_to_where_the_boat_is_is_its_tick() {
        Run x = Run.afloat(7).due(7, "soonest", 0, 14, 1).due(9, "soonest", 0, 8, 1).due(11, "soonest", 0, 9, 1);
        x.then("cell", 14, 1, 0).due(7, "soonest", 0, 14, 1).then("at", 1500, 120).due(120, "soonest", 6, 15, 0)
            .due(NONE, "soonest", 6, 9, 0);
    }

    @Sentence("back from its STATE of the least LABEL (of like ones the least number)")
    static void part2_plan_ends_in_the_state_of_the_least_number() {
        // round CELL 15 both ways take 9 TICKS, and end with HEADING 1 or 3
        Run x = Run.ready().then("cell", 15, 1, 0).then("at", 1420, 0).due(9, "soonest", 0, 16, 1);
        x.due(2, "plan", 0, 16, -1).due(30, "plan", 0, 16, 0).due(10, "plan", 0, 16, 1).due(NONE, "plan", 0, 16, 2);
    }

    @Sentence("each STATE came from the STATE of the least number from which one ACT, begun at that one's LABEL or later, "
        + "ends just at this one's LABEL")
    static void part2_plan_came_from_the_state_of_the_least_number() {
        Run x = Run.ready().then("cell", 15, 1, 0).then("cell", 10, 1, 0).then("cell", 22, 1, 0).then("at", 1420, 0);
        x.due(12, "soonest", 0, 17, 1).due(3, "plan", 0, 17, -1);
        x.due(30, "plan", 0, 17, 0).due(10, "plan", 0, 17, 1).due(20, "plan", 0, 17, 2);
        // a STEP begun behind a LABEL: CELL 20 opens in HOUR 1, and its STATE with HEADING 2 is as soon as that with 4
        x = Run.ready().ruled("shut hour < 1 if cell = 20").then("at", 1440, 0).due(12, "soonest", 0, 20, 1);
        x.due(2, "plan", 0, 20, -1).due(50, "plan", 0, 20, 0).due(20, "plan", 0, 20, 1);
    }

    @Sentence("from which one ACT, begun at that one's LABEL or later, ends just at this one's LABEL")
    static void part2_plan_came_by_no_step_that_ends_at_another_tick() {
        // HEADING 2 takes 100 TICKS, or none may begin: CELL 15 is come to by 8 (HEADING 3) or 9 (HEADING 4), and left with HEADING 1
        for (int speed = 0; speed < 2; speed++) {
            Run x = Run.ready().then("speed", 2, 0, speed);
            for (int land : new int[] {3, 4, 16, 20, 21}) x.call("cell", land, 1, 0);
            x.then("at", 1420, 0).due(15, "soonest", 0, 10, 1).due(3, "plan", 0, 10, -1);
            x.due(0, "plan", 0, 10, 0).due(30, "plan", 0, 10, 1).due(10, "plan", 0, 10, 2).due(NONE, "plan", 0, 10, 3);
        }
    }

    @Sentence("Its STEPS (HEADING, SAIL), in order")
    static void part2_steps_of_a_plan_in_order() {
        // through a channel that turns by an eighth at each STEP
        Run x = Run.ready();
        for (int cell = 0; cell < 36; cell++) if (cell != 0 && cell != 1 && cell != 8 && cell != 14 && cell != 19 && cell != 18) x.call("cell", cell, 1, 0);
        x.then("at", 20, 0).due(16, "soonest", 0, 18, 1).due(5, "plan", 0, 18, -1);
        for (int k = 0; k < 5; k++) x.due(20 + 10 * k, "plan", 0, 18, k);
        x.due(4, "plan", 0, 19, -1).due(20, "plan", 0, 19, 0).due(30, "plan", 0, 19, 1).due(40, "plan", 0, 19, 2)
            .due(50, "plan", 0, 19, 3).due(NONE, "plan", 0, 19, 4);
    }

    @Sentence("till the first one. Its STEPS (HEADING, SAIL), in order")
    static void part2_plan_to_where_the_boat_is_has_no_steps() {
        Run x = Run.afloat(5).due(0, "plan", 0, 14, -1).due(NONE, "plan", 0, 14, 0);
        x.then("at", 1400, 120).due(0, "plan", 0, 14, -1).due(NONE, "plan", 0, 8, -1);
    }
}
