import java.nio.charset.StandardCharsets;
import java.util.Objects;

/** What the tests have in common: they count wrong answers, and end with exit code 1 if there are any. */
final class Checks {
    interface Call {
        int answer();
    }

    static final Class<? extends RuntimeException> ILLEGAL = IllegalArgumentException.class;
    static final Class<? extends RuntimeException> STATE = IllegalStateException.class;
    static final Class<? extends RuntimeException> INDEX = IndexOutOfBoundsException.class;

    private static int asked;
    private static int wrong;
    private static int sentences;
    private static String sentence = "";

    private Checks() {
    }

    static void due(String what, Object want, Object got) {
        asked++;
        if (!Objects.equals(want, got)) {
            wrong++;
            System.out.println(sentence + what + ": answered " + got + ", due is " + want);
        }
    }

    /** The very class is due: an ArrayIndexOutOfBoundsException is no IndexOutOfBoundsException of the document. */
    static void thrown(String what, Class<? extends RuntimeException> want, Call call) {
        Object got;
        try {
            got = call.answer();
        } catch (RuntimeException e) {
            got = e.getClass();
        }
        due(what, want, got);
    }

    /** The test of one sentence of the document; what it throws is a wrong answer of this sentence alone. */
    static void sentence(String where, String words, Runnable test) {
        sentences++;
        sentence = where + " \"" + words + "\": ";
        try {
            test.run();
        } catch (RuntimeException e) {
            due("what is thrown", null, e);
        }
        sentence = "";
    }

    static void end() {
        String told = sentences == 0 ? "" : sentences + " sentences, ";
        System.out.println(told + asked + " answers, " + wrong + " not as due");
        if (wrong != 0) {
            System.exit(1);
        }
    }

    /** Feeds a text to a buffer that is empty. */
    static void put(CurvedNames x, String text) {
        putBytes(x, text.getBytes(StandardCharsets.ISO_8859_1));
    }

    static void putBytes(CurvedNames x, byte[] bytes) {
        for (int from = 0; from < bytes.length; from += 20) {
            x.feed(four(bytes, from), four(bytes, from + 4), four(bytes, from + 8),
                four(bytes, from + 12), four(bytes, from + 16));
        }
        x.truncate(bytes.length);
    }

    private static int four(byte[] bytes, int from) {
        int value = 0;
        for (int i = from; i < from + 4; i++) {
            value = value << 8 | (i < bytes.length ? bytes[i] & 255 : 0);
        }
        return value;
    }

    static CurvedNames read(String text) {
        CurvedNames x = new CurvedNames();
        put(x, text);
        x.readText();
        return x;
    }

    static int run(CurvedNames x, String script) {
        put(x, script);
        return x.runScript();
    }

    /** The error that a text has on a new object: its code and its position; nothing is told of one without. */
    static String textError(String text) {
        CurvedNames x = new CurvedNames();
        put(x, text);
        return error(x, x::readText);
    }

    /** The same of a script. */
    static String scriptError(String text) {
        CurvedNames x = new CurvedNames();
        put(x, text);
        return error(x, x::runScript);
    }

    private static String error(CurvedNames x, Call reading) {
        try {
            reading.answer();
        } catch (IllegalArgumentException e) {
            return x.errorCode() + " at " + x.errorPosition();
        }
        return x.errorCode() == 0 && x.errorPosition() == -1 ? "" : "told, but not thrown";
    }

    static String report(CurvedNames x) {
        int size = x.report();
        StringBuilder text = new StringBuilder();
        for (int i = 0; i < size; i++) {
            text.append((char) x.reportByte(i));
        }
        return text.toString();
    }

    static String rooms(CurvedNames x) {
        StringBuilder text = new StringBuilder();
        for (int i = 0; i <= x.setting(1); i++) {
            text.append(i == 0 ? "" : " ").append(x.room(i));
        }
        return text.toString();
    }
}
