/** Boundary cases of rules and of the texts that they are read from: part 3 of the document. */
final class RuleEdges {
    private static final int NONE = Run.NONE, BEYOND = Run.BEYOND, NO = Run.NO, FULL = Run.FULL;

    private RuleEdges() {
    }

    /** A text is no RULE, and its first FAULT is at a place; THE TAPE stays, and nothing is counted. */
    private static void fault(int place, String text) {
        Run x = new Run().type(text).due(-10 - place, "rule", 0, 12).due(text.length(), "count", 6).due(0, "count", 5);
        for (int by = FULL; by <= Run.MISSING; by++) x.due(0, "status", by);
    }

    private static void good(String... texts) {
        for (String text : texts) new Run().type(text).due(0, "rule", 0, 12).due(0, "count", 6).due(1, "count", 5);
    }

    /** What an E is of CELL 20 (SHELTER 30), a KITE (SAIL 1), HOUR 7 and one HAND of two awake. */
    private static void worked(int want, String e) {
        Run x = new Run().then("sail", 1).then("sail", 4).then("hand").then("hand").then("sleep", 0, 1).then("cell", 20, 0, 30);
        x.ruled("tired " + e).due(want, "says", 21, 20, 7);
    }

    private static String many(String what, int times) {
        StringBuilder text = new StringBuilder();
        for (int i = 0; i < times; i++) text.append(what);
        return text.toString();
    }

    @Sentence("RULES 0 .. 11 as they come")
    static void part3_rules_0_to_11_as_they_come() {
        Run x = new Run().then("sail", 0);
        for (int r = 0; r < 12; r++) x.type("tired " + r).due(r, "rule", 0, 12).due(r, "why", 20, 0, 0);
        x.type("tired 12").refused(FULL, "rule", 0, 12).due(11, "why", 20, 0, 0).due(11, "says", 20, 0, 0).due(12, "count", 5);
    }

    @Sentence("read from THE TAPE (bytes, 120 at most)")
    static void part3_a_tape_of_120_bytes_is_read() {
        String text = "tired 1" + many("+1", 56);
        Run x = new Run().then("sail", 0).type(text).due(119, "count", 6).due(120, "feed", ' ', 1).refused(FULL, "feed", ' ', 1);
        x.due(0, "rule", 0, 12).due(57, "says", 20, 0, 0);
        x.type("tired 10" + many("-1", 56)).due(120, "count", 6).due(1, "rule", 0, 12).due(-46, "says", 20, 0, 0);
        x.type(many(" ", 113) + "tired 9").due(120, "count", 6).due(2, "rule", 0, 12).due(9, "says", 20, 0, 0);
        fault(120, "tired 1" + many("+1", 56) + "+");
    }

    @Sentence("in force in HOURS from one on, ahead of another one (0 .. 12)")
    static void part3_in_force_from_an_hour_ahead_of_another() {
        Run x = new Run().then("sail", 0).ruled("tired 1", 0, 1).ruled("tired 2", 11, 12).ruled("tired 3", 4, 6);
        int[] due = {1, 40, 40, 40, 3, 3, 40, 40, 40, 40, 40, 2};
        for (int hour = 0; hour < 12; hour++) x.due(due[hour], "says", 20, 0, hour);
        x.type("tired 9").refused(NO, "rule", 12, 12).refused(NO, "rule", 0, 0).refused(NO, "rule", 5, 4)
            .refused(NO, "rule", -1, 5);
        x.refused(NO, "rule", 0, 13).refused(NO, "rule", 12, 13).due(3, "rule", 0, 12);
        for (int hour = 0; hour < 12; hour++) x.due(9, "says", 20, 0, hour);
    }

    @Sentence("TOKENS, each as long as can be")
    static void part3_tokens_are_as_long_as_can_be() {
        fault(0, "shutcell");
        fault(5, "gust notcell");
        fault(7, "gust 1 orcell");
        fault(7, "gust 1 iffy");
        fault(5, "gust rows");
        fault(5, "gust hand");
        fault(5, "gust cellcell");
        good("gust5if1", "gust 1or(2)and not(3)", "gust 7*cell", "gust(5)");
        fault(6, "gust 1cell");
        fault(5, "gust 123456");
    }

    @Sentence("WORDS (a .. z), NUMBERS (digits, 5 at most), SIGNS ( ) + - * / % = < >")
    static void part3_every_byte_behind_a_number() {
        for (int b = 0; b < 256; b++) {
            if (b == ' ') good("gust 1" + (char) b);
            else if (b >= '0' && b <= '9') good("gust 1" + (char) b);
            else if ("+-*/%=<>".indexOf(b) >= 0) fault(7, "gust 1" + (char) b);
            else fault(6, "gust 1" + (char) b);
        }
    }

    @Sentence("NUMBERS (digits, 5 at most)")
    static void part3_numbers_of_1_to_5_digits() {
        good("gust 0", "gust 9", "gust 99999", "gust 00000", "gust 00001");
        fault(5, "gust 100000");
        fault(5, "gust 000000");
        fault(9, "gust 1 + 000001 +");
        worked(99999, "99999");
        worked(7, "00007");
        fault(5, "gust " + many("9", 115));
    }

    @Sentence("blanks (32) may stand between")
    static void part3_blanks_may_stand_between() {
        good("  gust   5   ", "gust(  5  )", "gust 5 if 1 ", "gust - 5", "gust not  1");
        fault(4, "gust\t5");
        fault(4, "gust\n5");
        fault(4, "gust\u00a05");
        fault(0, "gu st 5");
        fault(7, "gust 1 2");
    }

    @Sentence("RULE: KEY E, perhaps if E")
    static void part3_a_rule_is_a_key_an_e_and_perhaps_an_if() {
        good("shut 1", "gust 1 if 2");
        fault(0, "1");
        fault(0, "if 1");
        fault(0, "cell 1");
        fault(5, "shut if 1");
        fault(9, "shut 1 if");
        fault(12, "shut 1 if 2 if 3");
        fault(7, "shut 1 shut 2");
        fault(7, "shut 1 gust");
        fault(8, "shut (1 if 2)");
    }

    @Sentence("E: AND { or AND }. AND: NOT { and NOT }")
    static void part3_and_binds_closer_than_or() {
        worked(1, "1 or 0 and 0");
        worked(1, "0 and 0 or 1");
        worked(0, "(1 or 0) and 0");
        worked(1, "0 or 0 or 0 or 2");
        worked(0, "1 and 1 and 1 and 0");
        fault(5, "gust or 1");
        fault(9, "gust 1 or");
        fault(10, "gust 1 or and 2");
        fault(11, "gust 1 and or 2");
        fault(10, "gust 1 and");
    }

    @Sentence("NOT: not NOT, or SUM, perhaps one of = < > and a SUM")
    static void part3_one_comparison_and_no_not_within_a_sum() {
        good("gust 1 = 2", "gust not 1 = 2", "gust not not 1 < 2", "gust (1 = 2) = 3", "gust 1 = 2 and 3 = 4");
        fault(11, "gust 1 = 2 = 3");
        fault(11, "gust 1 < 2 > 3");
        fault(9, "gust 1 = not 2");
        fault(9, "gust 1 + not 2");
        fault(7, "gust - not 2");
        fault(8, "gust 1 <= 2");
        worked(1, "not 1 = 0");
        worked(0, "not 1 + 1");
        worked(0, "not 0 and 0");
    }

    @Sentence("SUM: TERM { + or - TERM }. TERM: ONE { one of * / % ONE }")
    static void part3_sums_and_terms_from_the_left() {
        worked(4, "9-3-2");
        worked(7, "1+2*3");
        worked(7, "100/7/2");
        worked(2, "20%9%5+0");
        worked(3, "7%4*1");
        worked(2, "1--1");
        fault(8, "gust 2 *");
        fault(9, "gust 2 * / 3");
        fault(5, "gust + 2");
        fault(5, "gust * 2");
    }

    @Sentence("ONE: a NUMBER, a NAME, - ONE, ( E )")
    static void part3_ones() {
        good("gust --1", "gust -(1)", "gust -cell", "gust (1 or 2)");
        fault(6, "gust ()");
        fault(5, "gust )");
        fault(7, "gust (1");
        fault(8, "gust (1))");
        fault(6, "gust -");
        fault(6, "gust -+1");
    }

    @Sentence("KEYS: shut gust tired. NAMES: cell row hour sail shelter hands. Other WORDS that stand: if or and not")
    static void part3_keys_stand_first_alone_and_names_never_first() {
        String[] keys = {"shut", "gust", "tired"};
        String[] names = {"cell", "row", "hour", "sail", "shelter", "hands"};
        String[] others = {"if", "or", "and"};
        for (String key : keys) {
            good(key + " 1");
            fault(5, "gust " + key);
        }
        for (String name : names) {
            good("gust " + name);
            fault(0, name + " 1");
        }
        for (String other : others) {
            fault(5, "gust " + other);
            fault(0, other);
        }
        fault(0, "not 1");
        fault(8, "gust not");
    }

    @Sentence("An E is an int (32 bits, wrapping)")
    static void part3_an_e_wraps_around_in_32_bits() {
        worked(1409865409, "99999*99999");
        worked(-1465423905, "99999*99999*99999");
        // 65536 * 32767 + 65535 is the greatest int, 2147483647
        worked(Integer.MAX_VALUE, "65536*32767+65535");
        worked(Integer.MIN_VALUE, "65536*32767+65535+1");
        worked(Integer.MIN_VALUE, "65536*32768");
        worked(Integer.MIN_VALUE, "-(65536*32768)");
        worked(Integer.MIN_VALUE, "65536*32768/-1");
        worked(0, "65536*32768%-1");
        worked(Integer.MAX_VALUE, "65536*32768-1");
        worked(1, "65536*32768<0");
        worked(0, "65536*65536");
    }

    @Sentence("or, and, not, =, <, > are 1 or 0 (what is not 0 is true), both sides are always worked")
    static void part3_what_is_not_0_is_true() {
        worked(1, "-1 or 0");
        worked(1, "0 or -1");
        worked(0, "0 or 0");
        worked(1, "-1 and 2");
        worked(0, "-1 and 0");
        worked(0, "0 and -1");
        worked(0, "not -1");
        worked(1, "not 0");
        worked(1, "not not -7");
        worked(0, "2 < 2");
        worked(1, "1 < 2");
        worked(0, "2 > 2");
        worked(1, "2 > 1");
        worked(1, "2 = 2");
        worked(0, "2 = -2");
        worked(1, "2 or 1/0");
        worked(0, "0 and 1/0");
    }

    @Sentence("/ and % by 0 are 0")
    static void part3_by_0_is_0() {
        worked(0, "7/0");
        worked(0, "7%0");
        worked(0, "0/0");
        worked(1, "1 + 65536*32768/(cell-20)");
        worked(-3, "-7/2");
        worked(-3, "7/-2");
        worked(-3, "-7%4");
        worked(3, "7%-4");
    }

    @Sentence("FAULT: the place of the first byte of the first TOKEN that can't stand there")
    static void part3_a_fault_is_the_first_byte_of_the_first_token() {
        fault(10, "shut cell row )");
        fault(11, "shut cell  row");
        fault(5, "shut wrong 123456 #");
        fault(7, "shut 1 )(");
        fault(119, many(" ", 112) + "gust 1" + " " + ")");
    }

    @Sentence("(THE TAPE's size, if it ends too early)")
    static void part3_a_tape_that_ends_too_early() {
        fault(0, "");
        fault(1, " ");
        fault(120, many(" ", 120));
        fault(4, "shut");
        fault(6, "shut  ");
        fault(6, "shut (");
        fault(7, "shut 1+");
        fault(9, "shut not ");
        fault(10, "shut 1 if ");
        fault(11, "shut 1 and ");
    }

    @Sentence("also of a byte that begins none")
    static void part3_a_byte_that_begins_no_token() {
        for (int b = 0; b < 256; b++) {
            boolean begins = b == ' ' || b >= 'a' && b <= 'z' || b >= '0' && b <= '9' || "()+-*/%=<>".indexOf(b) >= 0;
            if (begins) continue;
            fault(0, (char) b + "gust 1");
            fault(5, "gust " + (char) b);
            fault(9, "gust 1 + " + (char) b + "2");
        }
    }

    @Sentence("a WORD that is none of these, a NUMBER that is too long")
    static void part3_a_word_that_is_none_and_a_number_too_long() {
        fault(0, "shu 1");
        fault(0, "tire 1");
        fault(0, "tiredd 1");
        fault(0, "shutz 1");
        fault(0, "shuta 1");
        fault(5, "gust zcell");
        fault(5, "gust nots 1");
        fault(7, "gust 1 an 2");
        fault(5, "gust shelters");
        fault(9, "gust 1 + 123456");
        // a WORD or a NUMBER that couldn't stand there anyway
        fault(7, "gust 1 123456");
        fault(7, "gust 1 zzz");
    }

    @Sentence("a ( , a not, a - ahead of a ONE while 6 of these are open")
    static void part3_six_may_be_open_and_no_seventh() {
        good("gust ((((((1))))))", "gust ------1", "gust not not not not not not 1", "gust not -(not -(1))", "gust not (-(-(1)))");
        fault(11, "gust (((((((1)))))))");
        fault(11, "gust -------1");
        fault(29, "gust not not not not not not not 1");
        fault(14, "gust not (-(-(-1)))");
        fault(11, "gust (((----1)))");
        fault(11, "gust ((((((not 1))))))");
        fault(16, "gust 1 if (((((((1)))))))");
        // what can't stand there anyway is the same FAULT
        fault(11, "gust ((((((* 2");
        good("gust ((((((1 - 1))))))", "gust ------cell");
    }

    @Sentence("(a ( till its ) , not and - till what they belong to ends)")
    static void part3_what_is_open_closes_again() {
        good("gust (1)+(1)+(1)+(1)+(1)+(1)+(1)+(1)", "gust -1 - -1 - -1 - -1 - -1 - -1 - -1 - -1");
        good("gust not 1 and not 1 and not 1 and not 1 and not 1 and not 1 and not 1");
        good("gust not (((((1))))) and ((((((1))))))", "gust -(((((1))))) * ((((((1))))))", "gust 1 if ((((((1))))))");
        good("gust ((((((1)))))) if ------1");
        fault(18, "gust not 1 = ((((((1))))))");
        good("gust not 1 = (((((1)))))");
        good("gust (-1*(((((1))))))", "gust (not((((1)))))", "gust not 1 and ((((((1))))))");
        fault(14, "gust (-1*((((((1)))))))");
        fault(13, "gust (not(((((1))))))");
    }

    @Sentence("of RULES in force then with it whose if isn't 0 (or that have none) the one of the greatest number: its E")
    static void part3_the_rule_of_the_greatest_number_says_it() {
        Run x = new Run().then("sail", 0).ruled("shut 1").ruled("shut 2 if cell = 5").ruled("shut 3 if cell - 6").ruled("gust 4")
            .ruled("shut 5", 3, 4);
        x.due(3, "says", 0, 5, 0).due(2, "why", 0, 5, 0).due(1, "says", 0, 6, 0).due(0, "why", 0, 6, 0).due(5, "says", 0, 6, 3)
            .due(4, "why", 0, 6, 3);
        x.ruled("shut 6 if cell - 5").due(3, "says", 0, 5, 0).due(6, "says", 0, 6, 0).due(6, "says", 0, 4, 3);
        x.ruled("shut 0").due(0, "says", 0, 5, 0).due(6, "why", 0, 5, 0);
    }

    @Sentence("Without one: shut 0, gust 39, tired 40")
    static void part3_without_a_rule() {
        Run x = new Run().then("sail", 2);
        for (int hour = 0; hour < 12; hour++) {
            x.due(0, "says", 0, 35, hour).due(39, "says", 10, 0, hour).due(40, "says", 20, 17, hour)
                .due(NONE, "why", 10 * (hour % 3), 0, hour);
        }
        x.ruled("gust 1 if 0").due(39, "says", 10, 0, 0).due(NONE, "why", 10, 0, 0).ruled("gust 2", 1, 2)
            .due(39, "says", 10, 0, 2).due(2, "says", 10, 0, 1);
    }

    @Sentence("NAMES: cell, row (of the CELL), hour; sail (its KIND); shelter (of the CELL); hands (how many are awake now)")
    static void part3_names_at_their_ends() {
        Run x = new Run().then("sail", 3).then("sail", 4).then("cell", 35, 0, 90);
        x.ruled("shut cell").ruled("gust row").ruled("tired hour");
        x.due(0, "says", 0, 0, 0).due(35, "says", 0, 35, 11).due(0, "says", 10, 5, 0).due(5, "says", 11, 30, 0)
            .due(11, "says", 21, 0, 11).due(0, "says", 20, 9, 0);
        x.ruled("shut sail").ruled("gust shelter").ruled("tired hands");
        x.due(3, "says", 0, 0, 0).due(4, "says", 1, 0, 0).due(90, "says", 10, 35, 0).due(0, "says", 10, 34, 0);
        for (int hand = 0; hand < 8; hand++) x.due(hand, "says", 20, 0, 0).then("hand");
        x.due(8, "says", 20, 0, 0).then("sleep", 3, 1).due(7, "says", 20, 0, 0).then("sleep", 3, 1).due(7, "says", 20, 0, 0);
    }

    @Sentence("shut is asked of the CELL that is come to (sail: of the one that is up), gust of the one that is left")
    static void part3_shut_of_the_cell_that_is_come_to_gust_of_the_one_that_is_left() {
        Run x = Run.ready().then("sail", 1).ruled("shut sail = 1").then("at", 1401, 0).refused(NO, "go", 0)
            .due(9 + 2, "soonest", 0, 8, 1);
        x.then("at", 1400, 0).due(2, "go", 0);
        x = Run.afloat(0).then("cell", 8, 0, 50).then("cell", 14, 0, 20).ruled("shut shelter = 20").due(2, "soonest", 0, 8, 1);
        x.ruled("gust 0 - shelter / 50").due(2, "soonest", 0, 8, 1).due(2, "go", 0).refused(NO, "go", 0);
    }

    // "its KIND 0, if there is none" can't be seen: THE BOAT is put with a SAIL, and until then no call asks tired
    @Sentence("tired of CELL 0 and SAIL 0 in THE BOAT's HOUR")
    static void part3_tired_is_asked_of_cell_0_and_sail_0() {
        Run x = new Run().then("sail", 3).then("sail", 1).then("hand").then("cell", 0, 0, 7).then("cell", 14, 0, 2)
            .then("at", 1401, 20);
        x.ruled("tired shelter + cell").then("stay", 6).due(0, "boat", 6).then("stay", 1).due(1, "boat", 6);
        x.ruled("tired sail + 5").due(0, "boat", 6).then("stay", 1).due(1, "boat", 6).then("at", 1401, 29)
            .ruled("tired hour * 4").due(1, "boat", 6);
        x.then("stay", 1).due(0, "boat", 6).then("at", 1401, 120).ruled("tired hour - 2").due(1, "boat", 6)
            .ruled("tired hour - 1").due(0, "boat", 6);
        new Run().then("sail", 3).then("hand").then("at", 0, 0).ruled("tired sail").then("stay", 2).due(0, "boat", 6)
            .then("stay", 1).due(1, "boat", 6);
    }
}
