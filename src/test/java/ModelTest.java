import java.lang.reflect.Method;
import java.util.ArrayList;
import java.util.HashMap;
import java.util.List;
import java.util.Map;

/**
 * Runs of calls made up by numbers from a seed, the same in every run of this test, on WindBoat
 * and on the Model; every answer has to be the same. Arguments: how many runs, the first seed.
 */
public final class ModelTest {
    private static final Map<String, Method> FACE = new HashMap<>();
    private static final Map<String, Method> MODEL = new HashMap<>();
    private static int wrong = 0;

    private long seed;
    private WindBoat boat;
    private Model model;
    private int calls;
    private final List<String> run = new ArrayList<>();
    private boolean failed;

    public static void main(String[] args) throws Exception {
        int runs = args.length > 0 ? Integer.parseInt(args[0]) : 80;
        int first = args.length > 1 ? Integer.parseInt(args[1]) : 1;
        for (Method m : WindBoat.class.getDeclaredMethods()) FACE.put(m.getName(), m);
        for (Method m : Model.class.getDeclaredMethods()) {
            if (java.lang.reflect.Modifier.isPublic(m.getModifiers())) MODEL.put(m.getName(), m);
        }
        for (int r = 0; r < runs; r++) new ModelTest().play(first + r);
        if (wrong != 0) System.exit(1);
    }

    private void play(int number) throws Exception {
        seed = 0x5DEECE66DL * number + 11;
        for (int i = 0; i < 5; i++) any(2);
        boat = new WindBoat();
        model = new Model();
        int kind = number % 4;
        if (kind < 3) {
            outfit(kind);
        }
        int left = kind == 3 ? 500 : 60 + any(60);
        for (int i = 0; i < left && !failed && calls < 500; i++) {
            if (kind == 3) wild(); else sensible();
        }
        for (int by = -8; by <= -2; by++) call("status", by);
        for (int what = 0; what < 12; what++) call("count", what);
        if (failed) {
            wrong++;
            System.out.println("run " + number + ":");
            for (String line : run) System.out.println("  " + line);
        }
    }

    private int any(int below) {
        seed = seed * 6364136223846793005L + 1442695040888963407L;
        return (int) ((seed >>> 33) % below);
    }

    private boolean chance(int percent) { return any(100) < percent; }

    /** A number of a range, now and then one just beyond it or far away. */
    private int about(int least, int greatest) {
        if (chance(3)) return chance(50) ? least - 1 : greatest + 1;
        if (any(400) == 0) return chance(50) ? Integer.MIN_VALUE + any(3) : Integer.MAX_VALUE - any(3);
        return least + any(greatest - least + 1);
    }

    private long call(String name, int... args) throws Exception {
        if (failed) return 0;
        Object[] boxed = new Object[args.length];
        StringBuilder text = new StringBuilder(name).append('(');
        for (int i = 0; i < args.length; i++) {
            boxed[i] = args[i];
            text.append(i == 0 ? "" : ", ").append(args[i]);
        }
        calls++;
        boolean isOfTrees = name.equals("tree") || name.equals("worth");
        if (!isOfTrees) model.stillAmongTrees = false;
        long want = ((Number) MODEL.get(name).invoke(model, boxed)).longValue();
        if (isOfTrees && want != -2 && want != -7) model.stillAmongTrees = true;
        String got;
        try {
            got = String.valueOf(((Number) FACE.get(name).invoke(boat, boxed)).longValue());
        } catch (java.lang.reflect.InvocationTargetException e) {
            got = String.valueOf(e.getCause());
        }
        run.add(text + ") answered " + got + ", due is " + want);
        if (!got.equals(String.valueOf(want))) failed = true;
        return want;
    }

    /** A boat that can go to most cells in most winds; kinds: 0 storms, 1 steady winds, 2 rules. */
    private void outfit(int kind) throws Exception {
        int sails = 1 + any(3);
        for (int i = 0; i < sails; i++) call("sail", kind == 1 && i == 0 ? 0 : any(5));
        int still = kind == 1 ? 10 : 0;
        int steep = 8 + any(14);
        for (int a = 0; a < 5; a++)
            for (int b = 0; b < 5; b++) call("speed", a, b, Math.min(99, still + any(12) + a * steep * (b + 2) / 4));
        int lands = kind == 1 ? any(2) : any(5);
        for (int i = 0; i < lands; i++) call("cell", any(36), 1, any(91));
        int shelters = any(10);
        for (int i = 0; i < shelters; i++) call("cell", any(36), 0, any(91));
        int gentle = kind == 0 ? 30 : 13;
        for (int w = 0; w < 7; w++) if (w == 6 || chance(75)) call("wind", w, any(8), 3 + any(gentle));
        int winds = any(12);
        for (int i = 0; i < winds; i++) call("wind", 10 * any(12) + (chance(40) ? 6 : any(7)), any(8), 3 + any(gentle));
        int hands = any(4);
        for (int i = 0; i < hands; i++) call("hand");
        int rules = kind == 2 ? 1 + any(4) : 0;
        for (int i = 0; i < rules; i++) rule(true);
        for (int c = 0; c < 3; c++) call("choice", c, any(36));
        for (int w = 0; w < 6; w++) if (chance(70)) call("group", w, any(3));
        if (chance(70)) {
            int first = any(20);
            call("telling", first, first + any(20));
        }
        if (chance(60)) call("mark", any(36));
        for (int i = 0; i < 6; i++) place();
        if (kind == 1) acrossTheSea();
    }

    /** From one corner to the other by choices that lie equally far off, so that worlds differ in which is best. */
    private void acrossTheSea() throws Exception {
        call("mark", 35);
        call("telling", any(12), 15 + any(25));
        for (int c = 0; c < 3; c++) call("choice", c, 5 + 5 * any(6) + any(2) * any(2));
        call("at", 10 * any(8), any(10));
        for (int aim = 0; aim < 3; aim++) for (int what = 0; what < 6; what++) call("tree", aim, what);
        call("worth");
    }

    private void place() throws Exception {
        call("at", 100 * any(36) + 10 * any(8) + any(3), any(25));
    }

    private void sensible() throws Exception {
        String[] often = {"go", "go", "go", "stay", "raise", "mend", "boat", "sailOf", "soonest", "soonest", "plan", "plan", "comes",
            "comes", "lost", "says", "why", "wind", "cell", "learn", "sleep", "at", "image", "back", "tree", "worth", "rule", "speed", "status"};
        String name = often[any(often.length)];
        if (name.equals("rule")) {
            rule(chance(60));
        } else if (name.equals("at") && chance(80)) {
            place();
        } else if (name.equals("learn") && chance(60)) {
            int angle = any(5), band = any(3), speed = any(60);
            for (int i = 0; i < 3; i++) call("learn", angle, band, speed + any(20));
        } else if (name.equals("lost") && chance(70)) {
            int world = any(6);
            for (int what = 0; what < 5; what++) call("lost", world, what);
        } else if (name.equals("back") && chance(60) || name.equals("tree") && chance(70)) {
            call("boat", any(8));
        } else {
            byName(name);
        }
    }

    private void wild() throws Exception {
        String[] cheap = {"cell", "wind", "blows", "mark", "speed", "learn", "table", "sail", "pace", "sailOf", "taken", "hand", "sleep",
            "feed", "wipe", "rule", "says", "why", "telling", "choice", "group", "weight", "rival", "game", "at", "stay", "go", "raise",
            "mend", "boat", "count", "image", "back", "lay", "set", "tear", "row", "copy", "status", "rule", "game", "set", "set"};
        String[] dear = {"soonest", "plan", "comes", "tree", "worth", "lost"};
        String name = any(60) == 0 ? dear[any(dear.length)] : cheap[any(cheap.length)];
        if (name.equals("rule") && chance(80)) {
            rule(chance(40));
        } else if (name.equals("game") && chance(70)) {
            game();
        } else {
            byName(name);
        }
    }

    private void byName(String name) throws Exception {
        switch (name) {
            case "cell": call(name, about(0, 35), about(0, 1), about(0, 90)); break;
            case "wind": call(name, about(0, 119), about(0, 7), about(0, 39)); break;
            case "blows": call(name, about(0, 119), about(0, 35), about(0, 3)); break;
            case "mark": call(name, about(0, 35)); break;
            case "speed": case "learn": call(name, about(0, 4), about(0, 4), about(0, 99)); break;
            case "table": call(name, about(0, 4), about(0, 4), about(0, 4)); break;
            case "sail": call(name, about(0, 4)); break;
            case "pace": call(name, about(0, 2), about(0, 4), about(0, 99)); break;
            case "sailOf": call(name, about(0, 2), about(0, 2)); break;
            case "taken": call(name, about(0, 2), about(0, 4)); break;
            case "sleep": call(name, about(0, 3), about(0, 1)); break;
            case "feed": call(name, any(1 << 30) * 4 + any(4), about(0, 4)); break;
            case "rule": call(name, about(0, 11), about(1, 12)); break;
            case "says": case "why": call(name, about(0, 2) * 10 + about(0, 2), about(0, 35), about(0, 11)); break;
            case "soonest": call(name, about(0, 6), about(0, 35), about(0, 1)); break;
            case "plan": call(name, about(0, 6), about(0, 35), about(-1, 6)); break;
            case "telling": call(name, about(0, 60), about(20, 120)); break;
            case "choice": call(name, about(0, 2), about(0, 35)); break;
            case "group": call(name, about(0, 5), about(0, 2)); break;
            case "comes": call(name, about(0, 2) * 10 + about(0, 2), about(0, 5)); break;
            case "tree": trees(); break;
            case "weight": call(name, about(0, 5)); break;
            case "rival": call(name, about(0, 5), about(0, 5), about(0, 999)); break;
            case "at": call(name, about(0, 35) * 100 + about(0, 7) * 10 + about(0, 2), about(0, 120)); break;
            case "stay": call(name, about(1, chance(80) ? 9 : 60)); break;
            case "go": call(name, about(0, 7)); break;
            case "raise": case "mend": call(name, about(0, 2)); break;
            case "boat": call(name, about(0, 7)); break;
            case "lost": call(name, about(0, 5), about(0, 4)); break;
            case "count": call(name, about(0, 11)); break;
            case "lay": call(name, chance(70) ? (chance(50) ? 4 : 9) : about(0, 12)); break;
            case "set": call(name, about(0, 8), chance(50) ? about(-9, 9) : about(-999, 999)); break;
            case "row": call(name, about(0, 11)); break;
            case "copy": call(name, about(0, 8), about(0, 8), about(0, 5)); break;
            case "status": call(name, about(-8, -2)); break;
            default: call(name);
        }
    }

    private void trees() throws Exception {
        int aim = about(0, 2);
        call("rival", any(6), any(6), any(130));
        for (int what = 0; what < 6; what++) if (chance(60)) call("tree", aim, what);
        call("tree", about(0, 2), about(0, 5));
    }

    private void game() throws Exception {
        int side = chance(30) ? 2 : 3;
        int most = chance(40) ? 3 : chance(50) ? 20 : 999;
        call("lay", side * side);
        for (int i = 0; i < side * side; i++) call("set", i, any(2 * most + 1) - most);
        call("game");
    }

    // ---- texts of rules

    private void rule(boolean whole) throws Exception {
        String text;
        if (chance(50)) {
            text = usual();
        } else {
            String[] keys = {"shut", "gust", "tired"};
            text = keys[any(3)] + " " + e(4) + (chance(50) ? " if " + e(3) : "");
        }
        if (!whole) {
            for (int n = 1 + any(2); n > 0; n--) text = spoil(text);
        }
        call("wipe");
        for (int i = 0; i < text.length(); ) {
            int n = Math.min(text.length() - i, 1 + any(4)), bytes = any(1 << 30);
            for (int k = 0; k < n; k++) bytes = bytes << 8 | text.charAt(i + k);
            call("feed", bytes, n);
            i += n;
        }
        int from = chance(60) ? 0 : any(12);
        call("rule", from, chance(60) ? 12 : from + 1 + any(12 - from));
    }

    /** Rules by which a boat can still go. */
    private String usual() {
        String[] forms = {"shut cell=" + any(36), "shut row=" + any(6) + " and hour<" + any(12), "shut 0 if hour>" + any(12),
            "gust " + (5 + any(30)), "gust 39-sail*" + any(12) + " if row>" + any(6), "gust 20+shelter/2 if hands<2", "tired " + any(20),
            "tired hour*5-hands", "shut sail=" + any(5) + " and cell%5=" + any(5), "shut not(hour%2=0 or cell<24) and shelter=0"};
        return forms[any(forms.length)];
    }

    private String e(int depth) {
        if (depth == 0 || chance(15)) {
            String[] ones = {"cell", "row", "hour", "sail", "shelter", "hands", "0", "1", "7", "24", "99999"};
            return ones[any(ones.length)];
        }
        String gap = chance(50) ? " " : "";
        switch (any(8)) {
            case 0: return e(depth - 1) + " or " + e(depth - 1);
            case 1: return e(depth - 1) + " and " + e(depth - 1);
            case 2: return "not " + e(depth - 1);
            case 3: return "-" + gap + e(depth - 1);
            case 4: return "(" + gap + e(depth - 1) + gap + ")";
            default:
                String sign = "+-*/%=<>".substring(any(8)).substring(0, 1);
                return "(" + e(depth - 1) + ")" + gap + sign + gap + e(depth - 1);
        }
    }

    private String spoil(String text) {
        int at = any(text.length() + 1);
        String[] bits = {"(", ")", "not ", "-", "- -", "((((", "if ", "or", "7", "12345", "x", "=", "#", "\u00e9", " ", "\u0000", "<", "and ", "cell", "A"};
        switch (any(3)) {
            case 0: return text.substring(0, at) + bits[any(bits.length)] + text.substring(at);
            case 1: return text.substring(0, Math.min(at, text.length())) ;
            default: return at == text.length() ? text : text.substring(0, at) + text.substring(at + 1);
        }
    }
}
