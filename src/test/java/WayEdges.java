/** Boundary cases of choices, trees, rivals, losses, the voyage and refusals: parts 4 and 5 of the document. */
final class WayEdges {
    private static final int NONE = Run.NONE, MISSING = Run.MISSING, BEYOND = Run.BEYOND, BELOW = Run.BELOW, KIND = Run.KIND,
        COPY = Run.COPY, NO = Run.NO, FULL = Run.FULL, LEAST = Run.LEAST, MOST = Run.MOST;

    private WayEdges() {
    }

    @Sentence("THE BOAT, once it is put, is in a STATE at a TICK (0 .. 120)")
    static void part4_the_boat_is_at_a_tick_0_to_120() {
        Run x = Run.ready().due(0, "count", 11).due(336, "at", 1400, 0).due(1, "count", 11).due(0, "boat", 3);
        x.then("at", 1400, 119).due(120, "stay", 1).refused(FULL, "stay", 1).refused(NO, "go", 0).due(120, "boat", 3);
        x.then("at", 1400, 60).due(120, "stay", 60).due(120, "soonest", 0, 14, 1).due(120, "boat", 3);
    }

    @Sentence("THE MARK: a CELL (35 at first)")
    static void part4_the_mark_is_35_at_first() {
        new Run().due(35, "count", 10).due(35, "mark", 0).due(0, "mark", 35).due(35, "count", 10).refused(BEYOND, "mark", 36)
            .refused(BEYOND, "mark", -1);
    }

    @Sentence("TELLINGS: two TICKS (0 and 0 at first, the second not ahead of the first)")
    static void part4_tellings_are_0_and_0_at_first_the_second_not_ahead() {
        Run x = Run.afloat(0).then("mark", 14).then("choice", 0, 14).due(0, "comes", 0, 0).due(0, "telling", 7, 7)
            .due(7, "comes", 0, 0);
        x.refused(NO, "telling", 7, 6).refused(NO, "telling", 120, 0).due(7, "telling", 7, 8).due(8, "comes", 0, 0);
    }

    @Sentence("CHOICES 0 .. 2: CELLS (0 at first)")
    static void part4_choices_0_to_2_and_cell_0_at_first() {
        Run x = new Run();
        for (int c = 0; c < 3; c++) x.due(0, "choice", c, 35).due(35, "choice", c, 35);
        x.refused(BEYOND, "choice", 3, 0).refused(BEYOND, "choice", -1, 0).refused(BEYOND, "choice", 0, 36)
            .refused(BEYOND, "choice", 0, -1);
    }

    @Sentence("Each WORLD is of a GROUP (0 .. 2; 0 at first)")
    static void part4_groups_0_to_2_and_0_at_first() {
        Run x = new Run();
        for (int world = 0; world < 6; world++) x.due(0, "group", world, 2).due(2, "group", world, 2);
        x.refused(NO, "group", 0, 3).refused(NO, "group", 0, -1).refused(BEYOND, "group", 6, 0).refused(BEYOND, "group", -1, 0);
    }

    @Sentence("COMES of CHOICES c, then q, in a WORLD (by LEARNT TABLE, CHANGE as now)")
    static void part4_comes_by_learnt_table_with_change_as_now() {
        Run x = Run.ready().then("sail", 2).then("wind", 0, 4, 25).then("at", 1440, 0).then("mark", 20).then("choice", 0, 14);
        x.due(9 + 4, "comes", 0, 0).then("hand").due(2 + 4, "comes", 0, 0).ruled("tired 0").due(3 + 4, "comes", 0, 0)
            .due(2, "comes", 0, 1);
        for (int i = 0; i < 3; i++) x.call("learn", 0, 3, 99);
        x.due(3 + 2, "comes", 0, 0);
        // the way to CELL 20 by WORLD 0 and the way back by q: not the same as q, then c
        x = Run.afloat(0).then("choice", 0, 8).then("choice", 1, 14).then("mark", 14).due(2 + 4 + 2, "comes", 1, 0)
            .due(2 + 4 + 2, "comes", 10, 0);
        x.then("mark", 8).due(2, "comes", 10, 0).due(2 + 4 + 2 + 4 + 2, "comes", 1, 0);
    }

    @Sentence("from THE BOAT's STATE and TICK SOONEST to c's CELL, into that of its STATES which PLAN ends in")
    static void part4_comes_goes_on_from_the_state_in_which_plan_ends() {
        // round CELL 15 both ways end at TICK 9, PLAN with HEADING 1: from there HEADING 3 is a TURN of 2 away
        Run x = Run.ready().then("cell", 15, 1, 0).then("choice", 0, 16).then("at", 1420, 0);
        x.then("mark", 11).due(9 + 3, "comes", 0, 0).then("mark", 23).due(9 + 2 + 3, "comes", 0, 0);
        x.then("choice", 1, 14).then("mark", 16).due(9, "comes", 10, 0);
    }

    @Sentence("from there, but not ahead of the first TELLING, likewise to q's CELL")
    static void part4_comes_waits_for_the_first_telling() {
        Run x = Run.afloat(0).then("choice", 0, 8).then("choice", 1, 2).then("mark", 2).due(4, "comes", 1, 0);
        int[][] cases = {{1, 4}, {2, 4}, {3, 5}, {118, 120}, {119, 999}};
        for (int[] c : cases) x.then("telling", c[0], c[0]).due(c[1], "comes", 1, 0);
    }

    @Sentence("from there, but not ahead of the second TELLING, to THE MARK: that TICK")
    static void part4_comes_waits_for_the_second_telling() {
        Run x = Run.afloat(0).then("choice", 0, 8).then("choice", 1, 2).then("mark", 1);
        int[][] cases = {{0, 4 + 2 + 2}, {4, 8}, {5, 9}, {116, 120}, {117, 999}, {120, 999}};
        for (int[] c : cases) x.then("telling", 0, c[0]).due(c[1], "comes", 1, 0);
        x.then("mark", 2).due(120, "comes", 1, 0).then("telling", 0, 5).due(5, "comes", 1, 0);
        x.then("telling", 120, 120).then("mark", 8).due(120, "comes", 0, 0).due(999, "comes", 1, 0);
    }

    @Sentence("999, if one of these can't be")
    static void part4_comes_999_if_one_of_three_can_not_be() {
        Run x = Run.afloat(0).then("cell", 35, 1, 0).then("choice", 0, 8).then("choice", 1, 35).then("mark", 2);
        x.due(4, "comes", 0, 0).due(999, "comes", 10, 0).due(999, "comes", 1, 0).then("mark", 35).due(999, "comes", 0, 0);
    }

    @Sentence("WEIGHT of a WORLD: 1 and HITS of its HOUSE (HOUSE 0: WORLDS 0 and 1, 1: 2 and 3, 2: 4 and 5)")
    static void part4_weight_1_without_hits_and_25_at_most() {
        Run x = new Run();
        for (int world = 0; world < 6; world++) x.due(1, "weight", world);
        for (int hour = 0; hour < 12; hour++) x.then("wind", 10 * hour + 6, 3, 20).then("wind", 10 * hour + 2, 3, 20);
        int[] half = {1, 1, 13, 13, 1, 1};
        for (int world = 0; world < 6; world++) x.due(half[world], "weight", world);
        for (int hour = 0; hour < 12; hour++) x.then("wind", 10 * hour + 3, 3, 20).then("wind", 10 * hour + 5, 7, 20);
        int[] whole = {1, 1, 25, 25, 1, 1};
        for (int world = 0; world < 6; world++) x.due(whole[world], "weight", world);
    }

    @Sentence("in how many HOURS (of each of its WORLDS) told both there and in THE TRUTH FROM is at most an eighth off and FORCE at most 4")
    static void part4_a_hit_is_at_most_an_eighth_and_4_off() {
        int[][] cases = {{0, 20, 2}, {1, 20, 2}, {7, 20, 2}, {2, 20, 1}, {6, 20, 1}, {4, 20, 1}, {0, 24, 2}, {0, 16, 2}, {0, 25, 1}, {0, 15, 1},
            {1, 24, 2}, {7, 16, 2}, {7, 25, 1}, {6, 16, 1}};
        Run x = new Run().then("wind", 6, 0, 20);
        for (int[] c : cases) x.then("wind", 0, c[0], c[1]).due(c[2], "weight", 0).due(c[2], "weight", 1);
        x.then("wind", 6, 7, 0).then("wind", 0, 0, 4).due(2, "weight", 0).then("wind", 0, 0, 5).due(1, "weight", 0);
        // HOURS that are only as the last one ahead of them aren't told
        x = new Run().then("wind", 6, 0, 20).then("wind", 10, 0, 20).due(1, "weight", 0).then("wind", 16, 0, 20)
            .due(2, "weight", 0);
    }

    /** All CHOICES are where THE BOAT is; THE MARK is a STEP off, of 2 TICKS in WORLD 0 and of 10 in WORLD 3, which has WEIGHT 2. */
    private static Run twoWorlds() {
        Run x = Run.afloat(0).then("wind", 0, 0, 0).then("wind", 3, 0, 8).then("wind", 6, 0, 8).then("mark", 8);
        for (int angle = 0; angle < 5; angle++) x.call("speed", angle, 1, 10);
        for (int c = 0; c < 3; c++) x.call("choice", c, 14);
        return x;
    }

    @Sentence("AIMS of what comes in TOLD WORLDS: 0 MEAN: WEIGHT times COMES, all together")
    static void part4_mean_is_of_told_worlds_by_weight() {
        Run x = twoWorlds().due(1, "weight", 0).due(2, "weight", 3).due(2, "weight", 2).due(2 + 2 * 10, "tree", 0, 1)
            .then("group", 3, 2).due(22, "tree", 0, 1);
        x.then("wind", 114, 0, 0).due(22 + 2, "tree", 0, 1);
        x.then("cell", 8, 1, 0).due(999 + 2 * 999 + 999, "tree", 0, 1);
    }

    @Sentence("1 WORST: the greatest COMES")
    static void part4_worst_is_the_greatest_comes() {
        Run x = twoWorlds().due(10, "tree", 1, 1).then("group", 3, 2).due(10, "tree", 1, 1).then("group", 3, 0)
            .then("group", 0, 2).due(10, "tree", 1, 1);
        x.then("cell", 8, 1, 0).due(999, "tree", 1, 1);
    }

    @Sentence("2 RUE: the greatest COMES less SOONEST to THE MARK in that WORLD (999, if it can't be)")
    static void part4_rue_is_0_at_best_and_where_the_mark_can_not_be() {
        Run x = twoWorlds().due(0, "tree", 2, 1).then("telling", 0, 5).due(5, "tree", 2, 1);
        // CHOICES that can't be while THE MARK can: 999 less 2, and less 10
        x.then("cell", 35, 1, 0);
        for (int c = 0; c < 3; c++) x.call("choice", c, 35);
        x.due(999 - 2, "tree", 2, 1).due(999, "tree", 1, 1).then("cell", 8, 1, 0).due(0, "tree", 2, 1);
    }

    @Sentence("for each c, in each GROUP the q by which that AIM of its TOLD WORLDS is least (of like ones the least q)")
    static void part4_of_like_second_choices_the_least() {
        for (int aim = 0; aim < 3; aim++) {
            Run x = Run.afloat(0).then("wind", 1, 0, 0).then("mark", 2).then("choice", 0, 35).then("choice", 1, 8)
                .then("choice", 2, 8);
            x.due(1, "tree", aim, 2).due(NONE, "tree", aim, 3).due(NONE, "tree", aim, 4).then("group", 1, 2);
            x.due(NONE, "tree", aim, 2).due(NONE, "tree", aim, 3).due(1, "tree", aim, 4);
            for (int c = 0; c < 3; c++) x.call("choice", c, 20);
            x.due(0, "tree", aim, 4).then("cell", 2, 1, 0).due(0, "tree", aim, 4);
            x.then("cell", 2, 0, 0).then("choice", 2, 8).due(2, "tree", aim, 4).then("choice", 1, 8).due(1, "tree", aim, 4);
        }
    }

    @Sentence("then the c by which the AIM of all is least (of like ones the least)")
    static void part4_of_like_first_choices_the_least() {
        for (int aim = 0; aim < 3; aim++) {
            Run x = Run.afloat(0).then("wind", 1, 0, 0).then("mark", 2).due(0, "tree", aim, 0);
            x.then("choice", 0, 35).then("choice", 1, 8).then("choice", 2, 8).due(1, "tree", aim, 0).then("choice", 1, 35)
                .due(2, "tree", aim, 0);
            x.then("choice", 0, 8).due(0, "tree", aim, 0).then("cell", 2, 1, 0).then("choice", 0, 35).due(0, "tree", aim, 0);
        }
    }

    @Sentence("WORTH of the first TELLING: MEAN of the TREE by MEAN, if all WORLDS were of one GROUP, less MEAN of it as they are")
    static void part4_worth_is_0_of_one_group_and_of_one_world() {
        // HEADING 4 is quick in WORLD 0 and HEADING 2 in WORLD 1: to know which one is worth 2 times 8
        Run x = new Run().then("sail", 0).then("speed", 4, 2, 50).then("speed", 2, 2, 10).then("speed", 4, 1, 10)
            .then("speed", 2, 1, 50);
        x.then("wind", 0, 0, 16).then("wind", 1, 0, 8).then("wind", 6, 0, 16).then("at", 40, 0).then("mark", 7)
            .then("telling", 0, 30);
        x.then("choice", 1, 6).then("choice", 2, 1).due(0, "worth").due(152, "tree", 0, 1);
        x.then("group", 1, 2).due(16, "worth").due(136, "tree", 0, 1).then("group", 0, 2).due(0, "worth").then("group", 1, 1)
            .due(16, "worth");
        x.then("cell", 7, 1, 0).due(0, "worth");
        Run.afloat(0).then("wind", 4, 0, 0).then("group", 4, 1).due(0, "worth");
    }

    @Sentence("RIVALS 0 .. 5: for each WORLD a TICK at which it comes (0 .. 999; 999 at first)")
    static void part4_rivals_0_to_5_at_0_to_999_and_999_at_first() {
        Run x = new Run();
        for (int i = 0; i < 36; i++) x.due(999, "rival", i / 6, i % 6, i);
        for (int i = 0; i < 36; i++) x.due(i, "rival", i / 6, i % 6, 999);
        x.due(999, "rival", 5, 5, 0).due(0, "rival", 5, 5, 999);
        x.refused(NO, "rival", 0, 0, 1000).refused(NO, "rival", 0, 0, -1).refused(BEYOND, "rival", 6, 0, 0)
            .refused(BEYOND, "rival", 0, 6, 0);
    }

    @Sentence("PLACE in a WORLD: 1 and how many RIVALS come ahead of COMES")
    static void part4_a_place_is_1_to_7_and_like_ticks_are_not_ahead() {
        Run x = Run.afloat(0).then("wind", 1, 0, 0).then("mark", 14).then("choice", 0, 14).then("telling", 4, 4)
            .due(4, "tree", 0, 1).due(1, "tree", 0, 5);
        x.then("rival", 0, 1, 4).due(1, "tree", 0, 5).then("rival", 0, 1, 5).due(1, "tree", 0, 5).then("rival", 0, 1, 3)
            .due(2, "tree", 0, 5);
        for (int rival = 0; rival < 6; rival++) x.then("rival", rival, 0, 0).due(2, "tree", 0, 5);
        for (int rival = 1; rival < 6; rival++) x.then("rival", rival, 1, 0).due(2 + rival, "tree", 0, 5);
        x.then("wind", 6, 0, 0).due(2 * 7, "tree", 0, 5);
        x = Run.afloat(0).then("wind", 1, 0, 0).then("cell", 35, 1, 0).due(999, "tree", 0, 1).due(1, "tree", 0, 5)
            .then("rival", 3, 1, 998).due(2, "tree", 0, 5);
    }

    @Sentence("LOST by a WORLD: from where and when THE BOAT was put, to THE MARK")
    static void part4_lost_from_where_the_boat_was_put() {
        Run x = Run.afloat(5).then("mark", 2).then("go", 2).then("go", 2).due(9, "lost", 0, 3).due(9, "lost", 5, 4)
            .then("stay", 60).due(9, "lost", 0, 3);
        x.then("mark", 14).due(5, "lost", 0, 3).due(5, "lost", 0, 4).then("at", 1400, 120).due(120, "lost", 0, 3);
        x.then("mark", 8).due(999, "lost", 0, 3).due(0, "lost", 0, 0);
    }

    @Sentence("1 WINDS: PLAN in THE TRUTH, else in the WORLD; 2 TABLE: PLAN by LEARNT TABLE, else by MAKER's; "
        + "4 HANDS: CHANGE 2 in PLAN and in SAILED, else as now")
    static void part4_lost_each_of_three_put_right_alone() {
        // WINDS alone: HEADING 0 is slow in BAND 1 of THE TRUTH, and 9 TICKS go round
        Run x = Run.afloat(0).then("wind", 6, 0, 8).then("speed", 0, 1, 1).then("mark", 8);
        x.due(546, "lost", 0, 0).due(0, "lost", 0, 1).due(0, "lost", 0, 2).then("wind", 0, 0, 8).due(0, "lost", 0, 0)
            .due(9, "lost", 0, 3);
        // TABLE alone: only OWN ROWS know that HEADING 0 is slow
        x = Run.afloat(0).then("mark", 8);
        for (int i = 0; i < 3; i++) x.call("learn", 0, 0, 1);
        x.due(0, "lost", 0, 0).due(546, "lost", 0, 1).due(0, "lost", 0, 2);
        // HANDS alone: the same CHANGE takes 9 as now, and 2
        x = Run.ready().then("sail", 2).then("mark", 20).then("at", 1440, 0);
        for (int wind = 0; wind < 7; wind++) x.call("wind", wind, 4, 25);
        x.due(13, "lost", 0, 3).due(6, "lost", 0, 4).due(0, "lost", 0, 0).due(0, "lost", 0, 1).due(42, "lost", 0, 2);
        x.then("hand").due(6, "lost", 0, 3).due(0, "lost", 0, 2).ruled("tired 0").due(7, "lost", 0, 3).due(6, "lost", 0, 2);
    }

    @Sentence("SAILED: STEPS of PLAN one behind the other in THE TRUTH, by LEARNT TABLE")
    static void part4_sailed_is_in_the_truth_by_learnt_table() {
        // the WORLD and MAKER's promise 2 TICKS a STEP by HEADING 0, THE TRUTH has 5 by LEARNT TABLE, and 9 go round by CELL 7
        Run x = Run.afloat(0).then("wind", 6, 0, 8).then("mark", 2).due(4, "lost", 0, 3);
        for (int i = 0; i < 3; i++) x.call("learn", 0, 1, 20);
        x.due(10, "lost", 0, 3).due(9, "lost", 0, 4).then("wind", 16, 0, 0).due(10, "lost", 0, 3).then("at", 1400, 8)
            .due(15, "lost", 0, 3);
        // each STEP leaves the CELL that the one ahead came to: CELL 8 has half the FORCE, and BAND 1 takes 4 TICKS
        x = Run.afloat(0).then("wind", 6, 0, 16).then("cell", 8, 0, 50).then("speed", 0, 1, 25).then("mark", 2)
            .due(2 + 4, "lost", 0, 3);
    }

    @Sentence("TURN, then CHANGE, as far as they are needed, then STEP as soon as it may begin")
    static void part4_sailed_steps_begin_as_soon_as_they_may() {
        // THE TRUTH holds the boat in HOUR 0
        Run x = Run.afloat(0).then("wind", 6, 0, 25).then("wind", 16, 0, 0).then("mark", 8).due(12, "lost", 0, 3)
            .due(12, "lost", 0, 4);
        x.then("at", 1400, 10).due(12, "lost", 0, 3).then("at", 1400, 9).due(12, "lost", 0, 3);
        // in HOUR 0 of THE TRUTH HEADING 0 takes 100 TICKS: it begins all the same, unless PLAN knows of it
        x = Run.afloat(0).then("wind", 6, 0, 8).then("wind", 16, 0, 0).then("speed", 0, 1, 1).then("mark", 8);
        x.due(100, "lost", 0, 3).due(9, "lost", 0, 4).due(6 * 91, "lost", 0, 0).due(0, "lost", 0, 1).due(0, "lost", 0, 2);
        // no TURN and no CHANGE, where they aren't needed
        Run.ready().then("sail", 1).then("at", 1400, 0).then("mark", 2).due(4, "lost", 0, 3).then("at", 1470, 0)
            .due(5, "lost", 0, 3);
    }

    @Sentence("999, if there is no PLAN, or it doesn't end by TICK 120")
    static void part4_sailed_is_120_at_most_or_999() {
        Run x = Run.afloat(118).then("mark", 8).due(120, "lost", 0, 3).then("at", 1400, 119).due(999, "lost", 0, 3)
            .due(999, "lost", 0, 4);
        x = Run.afloat(118).then("mark", 8).then("wind", 0, 0, 8).then("speed", 0, 0, 49).due(120, "soonest", 0, 8, 1)
            .due(999, "lost", 0, 3);
        x.then("at", 1400, 117).due(120, "lost", 0, 3).then("cell", 8, 1, 0).due(999, "lost", 0, 3).due(999, "lost", 0, 4);
        for (int what = 0; what < 3; what++) x.due(0, "lost", 0, what);
        // a STEP of PLAN that never may begin in THE TRUTH
        x = Run.afloat(0).then("mark", 8).then("wind", 6, 0, 25).due(999, "lost", 0, 3).due(999, "lost", 0, 4)
            .due(0, "lost", 0, 0);
    }

    @Sentence("SHARE of each of three: what putting it right takes off (SAILED ahead less SAILED behind), together over all six orders")
    static void part4_shares_make_up_six_times_what_is_lost() {
        // in WORLD 0 a STEP with SAIL, which THE TRUTH holds; a CHANGE to STORM takes 9, or 2 if HANDS are right
        Run x = Run.ready().then("sail", 2).then("wind", 6, 4, 25).then("mark", 20).then("at", 1440, 0);
        x.due(999, "lost", 0, 3).due(2 + 4, "lost", 0, 4);
        x.due(2 * (999 - 13) + (999 - 13) + (999 - 6) + 2 * (999 - 6), "lost", 0, 0).due(0, "lost", 0, 1)
            .due(3 * 7, "lost", 0, 2);
        // MAKER's knows no SPEED for STORM there: only WINDS and TABLE together find a way
        x.then("speed", 0, 3, 0);
        for (int i = 0; i < 3; i++) x.call("learn", 0, 3, 50);
        for (int land : new int[] {7, 8, 9, 13, 15, 19, 21}) x.call("cell", land, 1, 0);
        x.due(999, "lost", 0, 3).due(6, "lost", 0, 4);
        x.due((999 - 13) + 2 * (999 - 6), "lost", 0, 0).due((999 - 13) + 2 * (999 - 6), "lost", 0, 1).due(2 * 7, "lost", 0, 2);
        x = Run.ready().then("sail", 1).then("mark", 20).then("at", 1440, 0).then("speed", 4, 0, 99);
        for (int i = 0; i < 3; i++) x.call("learn", 4, 0, 1);
        long shares = x.call("lost", 0, 0) + x.call("lost", 0, 1) + x.call("lost", 0, 2);
        EdgeTest.check(shares, 6 * (x.call("lost", 0, 3) - x.call("lost", 0, 4)), "all SHARES");
        x.due(100, "lost", 0, 3);
    }

    @Sentence("as a TICK of THE BOAT goes by, TIREDNESS of HANDS changes; then, if FORCE of THE TRUTH in its CELL")
    static void part4_every_tick_that_goes_by_tires_the_hands() {
        Run x = Run.ready().then("sail", 1).then("hand").then("at", 1400, 0).due(0, "boat", 7).then("stay", 3).due(3, "boat", 7);
        x.then("go", 1).due(7, "boat", 7).then("raise", 1).due(9, "boat", 7).then("at", 1400, 0).due(9, "boat", 7);
        x.then("wind", 6, 0, 25).then("stay", 1).due(1, "sailOf", 0, 2).due(0, "sailOf", 1, 2).then("raise", 1).then("mend", 0)
            .due(9 + 1 + 2 + 12, "boat", 7);
        x.then("cell", 14, 0, 90).then("stay", 60).due(0, "count", 3);
    }

    @Sentence("in the HOUR of that TICK (its number ahead of going by) is above what the SAIL that is up")
    static void part4_a_sail_tears_in_the_hour_of_the_tick_ahead_of_going_by() {
        Run x = Run.ready().then("wind", 16, 0, 25).then("wind", 26, 0, 24).then("wind", 116, 0, 25);
        int[][] cases = {{9, 0}, {10, 1}, {19, 1}, {20, 0}, {109, 0}, {110, 1}, {119, 1}};
        for (int[] c : cases) x.twin().then("at", 1400, c[0]).due(c[0] + 1, "stay", 1).due(c[1], "sailOf", 0, 2);
        x.twin().then("at", 1400, 0).due(10, "stay", 10).due(0, "sailOf", 0, 2).due(11, "stay", 1).due(1, "sailOf", 0, 2);
        x.then("wind", 16, 0, 24).then("at", 1400, 0).due(30, "stay", 30).due(0, "sailOf", 0, 2);
        // winds of WORLDS tear none
        Run.afloat(0).then("wind", 0, 0, 39).then("stay", 9).due(0, "count", 3);
    }

    @Sentence("(till a STEP ends, the one that is left)")
    static void part4_till_a_step_ends_the_cell_that_is_left_counts() {
        Run x = Run.afloat(9).then("wind", 16, 0, 25).then("cell", 14, 0, 50).due(11, "go", 0).due(8, "boat", 0)
            .due(0, "sailOf", 0, 2);
        x.due(12, "stay", 1).due(1, "sailOf", 0, 2);
        x = Run.afloat(9).then("wind", 16, 0, 25).then("cell", 8, 0, 90).due(11, "go", 0).due(8, "boat", 0)
            .due(1, "sailOf", 0, 2);
    }

    @Sentence("(till a CHANGE ends, the old one) HOLDS, that is TORN")
    static void part4_till_a_change_ends_the_old_sail_is_up() {
        Run x = Run.ready().then("sail", 2).then("sail", 4).then("wind", 6, 0, 25).then("at", 1400, 0).due(9, "raise", 1);
        x.due(1, "sailOf", 0, 2).due(0, "sailOf", 1, 2).due(18, "raise", 2).due(0, "sailOf", 1, 2).due(0, "sailOf", 2, 2);
        x.due(19, "stay", 1).due(1, "sailOf", 2, 2).due(0, "sailOf", 1, 2).due(2, "count", 3);
    }

    @Sentence("(What gust SAYS tears none.)")
    static void part4_what_gust_says_tears_none() {
        Run x = Run.afloat(0).then("wind", 6, 0, 24).ruled("gust 0").due(9, "stay", 9).due(0, "sailOf", 0, 2);
        x.ruled("gust 99").then("wind", 6, 0, 25).due(10, "stay", 1).due(1, "sailOf", 0, 2);
    }

    @Sentence("Where THE BOAT isn't put, no TICK goes by; its HOUR is 0")
    static void part4_no_tick_goes_by_where_the_boat_is_not_put() {
        Run x = Run.ready().then("sail", 1).then("hand").then("wind", 6, 0, 39);
        x.refused(MISSING, "stay", 5).refused(MISSING, "go", 0).refused(MISSING, "raise", 1).refused(MISSING, "mend", 0);
        x.due(0, "sleep", 0, 0).due(0, "count", 3).due(0, "image").due(0, "back");
    }

    // ---- part 5: refusals

    @Sentence("REFUSALS, of several the first as each line has them")
    static void part5_of_several_refusals_the_first() {
        // each of these calls could be refused in every way that its line has
        Run x = new Run().refused(BEYOND, "cell", 36, 2, 91).refused(BEYOND, "wind", 7, 8, 40).refused(BEYOND, "blows", 7, 36, 4)
            .refused(BEYOND, "speed", 5, 5, 100);
        x.refused(BEYOND, "learn", 5, 5, 100).refused(BEYOND, "table", 5, 5, 5).refused(BEYOND, "pace", 0, 5, 100)
            .refused(BEYOND, "sailOf", 0, 3).refused(BEYOND, "taken", 0, 5);
        x.refused(BEYOND, "sleep", 0, 2).refused(MISSING, "soonest", 7, 36, 2).refused(MISSING, "plan", 7, 36, -2)
            .refused(BEYOND, "group", 6, 3);
        x.refused(MISSING, "comes", 33, 6).refused(MISSING, "tree", 3, 6).refused(BEYOND, "rival", 6, 6, 1000)
            .refused(MISSING, "game").refused(BEYOND, "at", 3600, 121);
        x.refused(MISSING, "stay", -1).refused(MISSING, "go", 8).refused(MISSING, "raise", 0).refused(MISSING, "mend", 0)
            .refused(MISSING, "boat", 8).refused(MISSING, "lost", 6, 5);
        x.refused(MISSING, "set", 12, 0).refused(MISSING, "row", 12).refused(MISSING, "copy", -1, -1, -1).then("lay", 0)
            .refused(BELOW, "copy", -1, -1, -1);
    }

    @Sentence("BEYOND a number beyond (no such CELL, WIND, HOUR, SAIL, HAND, CHOICE, RIVAL, RULE, ANGLE, BAND)")
    static void part5_beyond_for_each_kind_of_number() {
        Run x = Run.rich();
        for (int far : new int[] {LEAST, -1, MOST}) {
            x.refused(BEYOND, "mark", far).refused(BEYOND, "wind", far, 0, 0).refused(BEYOND, "soonest", far, 0, 0)
                .refused(BEYOND, "says", 0, 0, far);
            x.refused(BEYOND, "sailOf", far, 0).refused(BEYOND, "sleep", far, 0).refused(BEYOND, "choice", far, 0)
                .refused(BEYOND, "rival", far, 0, 0);
            x.refused(BEYOND, "pace", 0, far, 0).refused(BEYOND, "table", 0, far, 0).refused(BEYOND, "at", far, 0)
                .refused(BEYOND, "says", far, 0, 0);
            x.refused(BEYOND, "comes", far, 0).refused(BEYOND, "go", far).refused(BEYOND, "blows", 0, far, 0)
                .refused(BEYOND, "lost", far, 0);
        }
    }

    @Sentence("MISSING nothing there, KIND of another kind, BELOW a count below 0, COPY, NO not as told, FULL no room")
    static void part5_each_kind_of_refusal_once() {
        Run x = new Run().refused(MISSING, "boat", 0).refused(BEYOND, "mark", 36).refused(BELOW, "lay", -1).then("sail", 0)
            .refused(KIND, "taken", 0, 1);
        x.then("lay", 0).refused(COPY, "copy", 0, 0, 1).refused(NO, "sail", 5).then("sail", 0).then("sail", 0)
            .refused(FULL, "sail", 0);
        for (int by = FULL; by <= MISSING; by++) x.due(1, "status", by);
    }

    @Sentence("A refused call changes nothing but status()")
    static void part5_a_refused_call_changes_nothing_but_status() {
        Run x = Run.rich();
        x.refused(NO, "cell", 0, 1, 91).refused(NO, "cell", 0, 2, 5).refused(NO, "wind", 0, 8, 5).refused(NO, "wind", 0, 3, 40)
            .refused(NO, "speed", 0, 0, 100);
        x.refused(NO, "learn", 2, 1, 100).refused(NO, "sail", 9).refused(NO, "sleep", 1, 2).refused(NO, "feed", 7, 5)
            .refused(BELOW, "feed", 7, -1);
        x.refused(NO, "rule", 3, 3).refused(NO, "telling", 8, 7).refused(NO, "telling", 5, 121).refused(BEYOND, "choice", 0, 36)
            .refused(NO, "group", 1, 3);
        x.refused(NO, "rival", 2, 3, 1000).refused(NO, "at", 1400, 121).refused(KIND, "at", 700, 5);
    }

    @Sentence("`NONE = -1`: None.")
    static void part5_none_is_minus_1() {
        EdgeTest.check(WindBoat.NONE, -1, "NONE");
    }

    @Sentence("`MISSING = -2`: Nothing there.")
    static void part5_missing_is_minus_2() {
        EdgeTest.check(WindBoat.MISSING, -2, "MISSING");
    }

    @Sentence("`BEYOND = -3`: A number beyond.")
    static void part5_beyond_is_minus_3() {
        EdgeTest.check(WindBoat.BEYOND, -3, "BEYOND");
    }

    @Sentence("`BELOW = -4`: A count below 0.")
    static void part5_below_is_minus_4() {
        EdgeTest.check(WindBoat.BELOW, -4, "BELOW");
    }

    @Sentence("`KIND = -5`: Of another kind.")
    static void part5_kind_is_minus_5() {
        EdgeTest.check(WindBoat.KIND, -5, "KIND");
    }

    @Sentence("`COPY = -6`: A copy that can't be made.")
    static void part5_copy_is_minus_6() {
        EdgeTest.check(WindBoat.COPY, -6, "COPY");
    }

    @Sentence("`NO = -7`: Not as told.")
    static void part5_no_is_minus_7() {
        EdgeTest.check(WindBoat.NO, -7, "NO");
    }

    @Sentence("`FULL = -8`: There is no room.")
    static void part5_full_is_minus_8() {
        EdgeTest.check(WindBoat.FULL, -8, "FULL");
    }
}
