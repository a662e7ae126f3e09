import java.lang.reflect.InvocationTargetException;
import java.lang.reflect.Method;
import java.lang.reflect.Modifier;
import java.nio.charset.StandardCharsets;
import java.util.ArrayList;
import java.util.List;
import java.util.Map;
import java.util.Random;
import java.util.TreeMap;

/** Random runs of 512 calls, each put to a CurvedNames and to an Oracle. The seeds are written, so runs are alike. */
public final class ModelTest {
    private static final int CALLS = 512;
    private static final String[] ASKS = {
        "setting", "arc", "letter", "scratch", "flourishLetter", "partsAt", "heading", "turnAt", "farthestLeft", "room",
        "crowded", "tightest", "flourishIn", "stockLeft", "worth", "meanRoom", "filled", "danger", "slipsIf",
        "leastSharp", "leastGrowth", "mostWidth", "spare", "report", "reportByte", "errorCode", "errorPosition",
        "setting", "letter", "letter", "scratch", "scratch"};
    private static final String[] CHANGES = {
        "engrave", "engraveAll", "mend", "polish", "sharpen", "setMargin", "setRadius", "setWidth", "engrave", "mend",
        "polish", "engraveAll"};

    private final Random random;
    private final int seed;
    private final Map<String, Method> face = new TreeMap<>();
    private final Map<String, Method> model = new TreeMap<>();
    private final CurvedNames program = new CurvedNames();
    private final Oracle oracle = new Oracle();
    private final List<String> calls = new ArrayList<>();
    private boolean differs;

    private ModelTest(int seed) {
        this.seed = seed;
        this.random = new Random(seed);
        publicMethods(CurvedNames.class, face);
        publicMethods(Oracle.class, model);
    }

    private static void publicMethods(Class<?> of, Map<String, Method> methods) {
        for (Method m : of.getDeclaredMethods()) {
            if (Modifier.isPublic(m.getModifiers())) {
                methods.put(m.getName(), m);
            }
        }
    }

    public static void main(String[] args) {
        int runs = args.length > 0 ? Integer.parseInt(args[0]) : 400;
        int from = args.length > 1 ? Integer.parseInt(args[1]) : 0;
        for (int seed = from; seed < from + runs; seed++) {
            new ModelTest(seed).run();
        }
        Checks.end();
    }

    private void run() {
        while (calls.size() < CALLS - 40 && !differs) {
            int kind = random.nextInt(100);
            if (kind < 2 || calls.isEmpty()) {
                putText(random.nextInt(8) == 0 ? spoilt(text()) : text());
                call("readText");
            } else if (kind < 14) {
                putText(random.nextInt(5) == 0 ? spoilt(script(0)) : script(0));
                call("runScript");
            } else if (kind < 17) {
                putText(random.nextInt(4) == 0 ? spoilt(word(9)) : word(8));
                call("tightestIf");
            } else if (kind < 40) {
                change();
            } else if (kind < 46) {
                call(random.nextInt(3) == 0 ? "save" : random.nextInt(4) == 0 ? "restore" : "undo");
            } else if (kind < 48) {
                call("truncate", random.nextInt(30) - 3);
                call("feed", random.nextInt(), random.nextInt(), random.nextInt(), random.nextInt(), random.nextInt());
            } else {
                ask();
            }
        }
    }

    private void change() {
        String name = CHANGES[random.nextInt(CHANGES.length)];
        int most = name.equals("engrave") || name.equals("polish") ? 20 : name.equals("mend") ? 12 : 101;
        switch (face.get(name).getParameterCount()) {
            case 0: call(name); break;
            case 1: call(name, random.nextInt(most + 1) - 1); break;
            default: call(name, random.nextInt(name.equals("setRadius") ? 9 : 28) - 1, random.nextInt(102) - 1); break;
        }
    }

    private void ask() {
        String name = ASKS[random.nextInt(ASKS.length)];
        if (random.nextInt(6) == 0) {
            askOfSpoiling();
            return;
        }
        int whole = (Integer) answer(oracle, model.get("setting"), 3);
        int parts = (Integer) answer(oracle, model.get("setting"), 4);
        int most = name.equals("partsAt") || name.equals("heading") ? whole + 2
            : name.equals("turnAt") ? parts + 2
            : name.equals("reportByte") ? 100
            : name.equals("arc") ? 8 : name.equals("mostWidth") ? 26 : name.startsWith("stock") ? 6 : 21;
        int first = random.nextInt(50) == 0 ? random.nextInt() : random.nextInt(most + 2) - 1;
        int second = random.nextInt(50) == 0 ? random.nextInt() : random.nextInt(15) - 1;
        switch (face.get(name).getParameterCount()) {
            case 0: call(name); break;
            case 1: call(name, first); break;
            default: call(name, first, second); break;
        }
    }

    /** Asked just behind a change, as what was measured ahead of it must not be told. */
    private void askOfSpoiling() {
        int scratches = (Integer) answer(oracle, model.get("setting"), 7);
        call("setWidth", random.nextInt(26), 1 + random.nextInt(random.nextBoolean() ? 12 : 99));
        if (random.nextBoolean()) {
            call("scratch", random.nextInt(scratches + 1), 2);
        } else {
            call("letter", random.nextInt(20), 9);
        }
        call("setting", 9);
    }

    private void call(String name, Integer... given) {
        if (differs) {
            return;
        }
        calls.add(name + List.of(given));
        Object got = answer(program, face.get(name), (Object[]) given);
        Object want = answer(oracle, model.get(name), (Object[]) given);
        differs = !want.equals(got);
        Checks.due(differs ? "seed " + seed + " " + calls : "", want, got);
    }

    private static Object answer(Object object, Method method, Object... given) {
        try {
            return method.invoke(object, given);
        } catch (InvocationTargetException e) {
            return e.getCause().getClass();
        } catch (IllegalAccessException e) {
            throw new IllegalStateException(e);
        }
    }

    private void putText(String text) {
        call("truncate", 0);
        byte[] bytes = text.getBytes(StandardCharsets.ISO_8859_1);
        int length = Math.min(500, bytes.length);
        for (int from = 0; from < length; from += 20) {
            call("feed", four(bytes, from), four(bytes, from + 4), four(bytes, from + 8), four(bytes, from + 12),
                four(bytes, from + 16));
        }
        call("truncate", length);
        if (length > 0 && random.nextInt(8) == 0) {
            call("truncate", random.nextInt(length));
        }
    }

    private static int four(byte[] bytes, int from) {
        int value = 0;
        for (int i = from; i < from + 4; i++) {
            value = value << 8 | (i < bytes.length ? bytes[i] & 255 : 0);
        }
        return value;
    }

    private String word(int most) {
        StringBuilder text = new StringBuilder();
        int length = 1 + random.nextInt(most);
        int letters = random.nextBoolean() ? 3 : 26;
        for (int i = 0; i < length; i++) {
            text.append((char) ('a' + random.nextInt(letters)));
        }
        return text.toString();
    }

    /** A number of a range, now and then outside it. */
    private String number(int least, int most) {
        return Integer.toString(random.nextInt(400) == 0 ? most + 1 : least + random.nextInt(most - least + 1));
    }

    private String text() {
        StringBuilder text = new StringBuilder();
        int statements = random.nextInt(random.nextInt(8) == 0 ? 40 : 14);
        boolean isWide = random.nextBoolean();
        for (int i = 0; i < statements; i++) {
            switch (random.nextInt(15)) {
                case 0: case 1: case 2: case 3: case 4: case 5:
                    text.append("arc ").append(number(1, random.nextInt(5) == 0 ? 3 : 99)).append(' ');
                    text.append(number(1, random.nextBoolean() ? 180 : 30));
                    text.append(random.nextBoolean() ? " right" : "");
                    text.append(random.nextInt(4) != 0 ? "hard" + number(0, 99) : "");
                    break;
                case 6: case 7: case 8:
                    text.append("name ").append(word(random.nextInt(6) == 0 ? 8 : 5));
                    break;
                case 9:
                    text.append("wide ").append(word(8)).append(number(1, isWide ? 99 : 9));
                    break;
                case 10: case 11: case 12:
                    text.append("flourish ").append(word(8)).append(number(1, 20)).append(' ');
                    text.append(number(1, random.nextBoolean() ? 3 : 99)).append('\n').append(number(1, 9));
                    break;
                case 13:
                    text.append(random.nextBoolean() ? "seed " + number(0, 999) : "margin" + number(0, 99));
                    break;
                default:
                    text.append("sharp ").append(number(1, random.nextBoolean() ? 20 : 99));
                    break;
            }
            text.append(random.nextBoolean() ? ";" : " ;\n");
        }
        return text.toString();
    }

    private String script(int depth) {
        StringBuilder text = new StringBuilder();
        int commands = random.nextInt(random.nextInt(10) == 0 ? 34 : 6);
        for (int i = 0; i < commands; i++) {
            switch (random.nextInt(9)) {
                case 0: case 1: text.append("engrave ").append(number(0, 10)); break;
                case 2: text.append("all"); break;
                case 3: text.append("mend ").append(number(0, 3)); break;
                case 4: text.append("polish").append(number(0, 10)); break;
                case 5: text.append("sharpen ").append(number(1, random.nextInt(9) == 0 ? 999 : 20)); break;
                case 6: text.append("margin ").append(number(0, 99)); break;
                default:
                    text.append("repeat ").append(number(1, 20)).append('(');
                    text.append(depth < 3 ? script(depth + 1) : "").append(")");
                    break;
            }
            text.append(";");
        }
        return text.toString();
    }

    private String spoilt(String text) {
        StringBuilder spoilt = new StringBuilder(text);
        int at = random.nextInt(text.length() + 1);
        switch (random.nextInt(4)) {
            case 0: spoilt.setLength(at); break;
            case 1: spoilt.insert(at, (char) random.nextInt(256)); break;
            case 2: spoilt.insert(at, " ;()\n0123az".charAt(random.nextInt(11))); break;
            default:
                if (at < text.length()) {
                    spoilt.deleteCharAt(at);
                }
                break;
        }
        return spoilt.toString();
    }
}
