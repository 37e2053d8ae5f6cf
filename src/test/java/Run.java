import java.lang.reflect.InvocationTargetException;
import java.lang.reflect.Method;
import java.util.ArrayList;
import java.util.Arrays;
import java.util.HashMap;
import java.util.List;
import java.util.Map;
import java.util.Set;

/**
 * A run of calls on one object, each with the answer that is due. The calls are kept, so that a
 * twin can be brought into the same state: what a refused call has changed is seen by comparing two.
 */
final class Run {
    static final int NONE = -1, MISSING = -2, BEYOND = -3, BELOW = -4, KIND = -5, COPY = -6, NO = -7, FULL = -8;
    static final int LEAST = Integer.MIN_VALUE, MOST = Integer.MAX_VALUE;

    private static final int MOST_CALLS = 512;
    private static final int LOOKS = 9;
    private static final Map<String, Method> FACE = new HashMap<>();
    private static final Set<String> TELL_0 = Set.of("says", "game", "count", "set", "row");

    static {
        for (Method m : WindBoat.class.getMethods()) FACE.put(m.getName(), m);
    }

    private final WindBoat boat = new WindBoat();
    private final List<String> names = new ArrayList<>();
    private final List<int[]> numbers = new ArrayList<>();

    long call(String name, int... args) {
        if (names.size() >= MOST_CALLS) throw new IllegalStateException("more than 512 calls");
        names.add(name);
        numbers.add(args);
        Object[] boxed = new Object[args.length];
        for (int i = 0; i < args.length; i++) boxed[i] = args[i];
        try {
            return ((Number) FACE.get(name).invoke(boat, boxed)).longValue();
        } catch (InvocationTargetException e) {
            throw new IllegalStateException(text(name, args) + " threw " + e.getCause(), e);
        } catch (IllegalAccessException e) {
            throw new IllegalStateException(e);
        }
    }

    /** A call whose answer isn't looked at here. */
    Run then(String name, int... args) {
        call(name, args);
        return this;
    }

    Run due(long want, String name, int... args) {
        EdgeTest.check(call(name, args), want, text(name, args));
        return this;
    }

    /** A call that is refused: its answer, what status tells then, and that nothing else has changed. */
    Run refused(int by, String name, int... args) {
        String text = text(name, args);
        Run before = twin();
        Run behind = twin();
        EdgeTest.check(behind.call(name, args), TELL_0.contains(name) ? 0 : by, text);
        for (int s = FULL; s <= MISSING; s++) {
            EdgeTest.check(behind.call("status", s), before.call("status", s) + (s == by ? 1 : 0), "status(" + s + ") behind " + text);
        }
        alike(this, twin().then(name, args), text + " was refused, but changed something");
        return then(name, args);
    }

    /** Nothing that can be seen tells two objects apart (but for status). */
    static void alike(Run one, Run other, String why) {
        for (int k = 0; k < LOOKS; k++) {
            if (!Arrays.equals(one.twin().look(k), other.twin().look(k))) EdgeTest.fail(why + " (look " + k + ")");
        }
    }

    Run twin() {
        Run other = new Run();
        for (int i = 0; i < names.size(); i++) other.call(names.get(i), numbers.get(i));
        return other;
    }

    Run type(String text) {
        for (int i = 0; i < text.length(); i += 4) {
            int n = Math.min(4, text.length() - i), bytes = 0;
            for (int k = 0; k < n; k++) bytes = bytes << 8 | text.charAt(i + k);
            call("feed", bytes, n);
        }
        return this;
    }

    /** A text becomes a RULE in HOURS from one on, ahead of another one. */
    Run ruled(String text, int from, int to) {
        call("wipe");
        type(text);
        if (call("rule", from, to) < 0) EdgeTest.fail("'" + text + "' is no RULE");
        return this;
    }

    Run ruled(String text) {
        return ruled(text, 0, 12);
    }

    private static String text(String name, int[] args) {
        StringBuilder text = new StringBuilder(name).append('(');
        for (int i = 0; i < args.length; i++) text.append(i == 0 ? "" : ", ").append(args[i]);
        return text.append(')').toString();
    }

    // ---- what can be seen of an object; a look may change it, so that each has a twin of its own

    private long[] look(int which) {
        List<Long> seen = new ArrayList<>();
        switch (which) {
            case 0: lookAtCounts(seen); break;
            case 1: lookAtWinds(seen); break;
            case 2: lookAtCells(seen); break;
            case 3: lookAtRules(seen); break;
            case 4: lookAtRowAndTape(seen); break;
            case 5: lookAtChoices(seen); break;
            case 6: lookAtWays(seen); break;
            case 7: lookAtHands(seen); break;
            default:
                seen.add(call("back"));
                lookAtCounts(seen);
        }
        return seen.stream().mapToLong(x -> x).toArray();
    }

    private void lookAtCounts(List<Long> seen) {
        for (int what = 0; what < 12; what++) seen.add(call("count", what));
        for (int what = 0; what < 8; what++) seen.add(call("boat", what));
        for (int i = 0; i < 9; i++) seen.add(call("sailOf", i / 3, i % 3));
        for (int i = 0; i < 125; i++) seen.add(call("table", i / 25, i / 5 % 5, i % 5));
        for (int world = 0; world < 6; world++) seen.add(call("weight", world));
    }

    private void lookAtWinds(List<Long> seen) {
        for (int what = 0; what < 4; what++) {
            if (what == 2) continue;
            for (int hour = 0; hour < 12; hour++)
                for (int wind = 0; wind < 7; wind++) seen.add(call("blows", 10 * hour + wind, 0, what));
        }
    }

    private void lookAtCells(List<Long> seen) {
        call("wind", 0, 0, 39);
        for (int cell = 0; cell < 36; cell++) {
            seen.add(call("blows", 0, cell, 2));
            seen.add(call("cell", cell, 0, 0));
        }
    }

    private void lookAtRules(List<Long> seen) {
        for (int key = 0; key < 3; key++)
            for (int sail = 0; sail < 3; sail++)
                for (int hour = 0; hour < 12; hour++) {
                    seen.add(call("says", 10 * key + sail, 3 * hour, hour));
                    if (sail == 0) seen.add(call("why", 10 * key, 3 * hour + 1, hour));
                }
    }

    private void lookAtRowAndTape(List<Long> seen) {
        seen.add(call("game"));
        for (int i = 0; i < 12; i++) seen.add(call("row", i));
        seen.add(call("copy", 0, 0, 0));
        seen.add(call("tear"));
        seen.add(call("rule", 0, 12));
        for (int key = 0; key < 3; key++) seen.add(call("says", 10 * key, 1, 1));
        seen.add(call("wipe"));
    }

    private void lookAtChoices(List<Long> seen) {
        for (int c = 0; c < 3; c++)
            for (int q = 0; q < 3; q++) seen.add(call("comes", 10 * c + q, q));
        seen.add(call("tree", 0, 5));
        for (int c = 0; c < 3; c++) seen.add(call("choice", c, 0));
        for (int world = 0; world < 6; world++) {
            seen.add(call("group", world, 0));
            for (int rival = 0; rival < 6; rival++) seen.add(call("rival", rival, world, 0));
        }
        seen.add(call("telling", 0, 0));
    }

    private void lookAtWays(List<Long> seen) {
        for (int cell = 0; cell < 36; cell += 5) {
            seen.add(call("soonest", 6, cell, 0));
            seen.add(call("plan", 0, cell, 0));
        }
        for (int what = 0; what < 5; what++) seen.add(call("lost", 0, what));
    }

    private void lookAtHands(List<Long> seen) {
        seen.add(call("stay", 1));
        seen.add(call("boat", 5));
        for (int hand = 0; hand < 8; hand++) seen.add(call("sleep", hand, 0));
        seen.add(call("raise", 0));
        seen.add(call("raise", 1));
        seen.add(call("boat", 3));
    }

    // ---- where tests begin

    /** A SAIL of KIND 0, SPEED 50 everywhere: a STEP takes 2 TICKS, by an odd HEADING 3. */
    static Run ready() {
        return rigged(0);
    }

    /** The same with a SAIL of any KIND. */
    static Run rigged(int kind) {
        Run x = new Run().then("sail", kind);
        for (int i = 0; i < 25; i++) x.call("speed", i / 5, i % 5, 50);
        return x;
    }

    /** Ready, and put into CELL 14 with HEADING 0 at a TICK. */
    static Run afloat(int tick) {
        return ready().then("at", 1400, tick);
    }

    /** An object in which nearly all has been told and done, with room left for more. */
    static Run rich() {
        Run x = new Run().then("sail", 0).then("sail", 4);
        for (int i = 0; i < 15; i++) x.call("speed", i / 3, i % 3, 20 + 4 * i);
        x.then("wind", 0, 0, 10).then("wind", 31, 3, 14).then("wind", 6, 4, 12).then("wind", 56, 2, 15);
        x.then("cell", 7, 1, 0).then("cell", 21, 0, 40).then("mark", 33);
        for (int i = 0; i < 3; i++) x.call("learn", 2, 1, 20 + i);
        x.then("hand").then("hand").then("sleep", 1, 1);
        x.ruled("shut cell = 9").ruled("gust 20 + sail", 2, 12);
        x.then("telling", 3, 9).then("choice", 0, 20).then("choice", 1, 22).then("choice", 2, 27);
        x.then("group", 1, 1).then("rival", 2, 3, 44);
        x.due(3 * 8 * 14, "at", 1400, 2).then("stay", 3).then("image").then("go", 2).then("stay", 1);
        x.then("lay", 5).then("set", 2, 7).type("gust 5");
        return x;
    }
}
