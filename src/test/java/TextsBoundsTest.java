/** The sentences of promises 1 to 7, the new object, the buffer and what is read from it, that name a boundary case. */
public final class TextsBoundsTest {
    private static final int BLANKS = 0x20202020;

    private TextsBoundsTest() {
    }

    public static void main(String[] args) {
        newObject();
        feed();
        fullBuffer();
        truncate();
        readText();
        readTextReplaces();
        readTextRefused();
        runScript();
        runScriptRefused();
        errors();
        Checks.end();
    }

    private static void sentence(int promise, String words, Runnable test) {
        Checks.sentence("Promise " + promise, words, test);
    }

    /** An object with so many bytes, all blanks, in its buffer. */
    private static CurvedNames fed(int bytes) {
        CurvedNames x = new CurvedNames();
        for (int length = 0; length < bytes; length += 20) {
            x.feed(BLANKS, BLANKS, BLANKS, BLANKS, BLANKS);
        }
        x.truncate(bytes);
        return x;
    }

    private static int feedBlanks(CurvedNames x) {
        return x.feed(BLANKS, BLANKS, BLANKS, BLANKS, BLANKS);
    }

    private static void newObject() {
        sentence(1, "Creates a state as if an empty text was read", () -> {
            CurvedNames x = new CurvedNames();
            int[] due = {0, 0, 0, 0, 0, 50, 1, 0, 0, 0, 1, 0, 0, 0};
            for (int what = 0; what < due.length; what++) {
                Checks.due("setting " + what, due[what], x.setting(what));
            }
            Checks.due("the only room", 0, x.room(0));
            Checks.due("it is crowded", 1, x.crowded());
            Checks.thrown("no arc", Checks.INDEX, () -> x.arc(0, 0));
            Checks.thrown("no letter", Checks.INDEX, () -> x.letter(0, 0));
            Checks.thrown("no scratch", Checks.INDEX, () -> x.scratch(0, 0));
            Checks.thrown("no flourish", Checks.INDEX, () -> x.flourishLetter(0, 0));
            Checks.thrown("no flourish", Checks.INDEX, () -> x.stockLeft(0));
            Checks.thrown("no room 1", Checks.INDEX, () -> x.room(1));
            for (int place = 0; place < 26; place++) {
                Checks.due("width of " + place, 4, x.setWidth(place, 9));
            }
        });
        sentence(1, "as if an empty text was read", () ->
            Checks.due("all of both", Twins.all(Checks.read("")), Twins.all(new CurvedNames())));
        sentence(1, "with an empty buffer", () -> {
            CurvedNames x = new CurvedNames();
            Checks.due("0 bytes", 0, x.truncate(0));
            Checks.thrown("not 1", Checks.ILLEGAL, () -> x.truncate(1));
            Checks.due("the first 20", 20, feedBlanks(x));
            Checks.thrown("no word in it", Checks.ILLEGAL, () -> new CurvedNames().tightestIf());
            Checks.due("an empty text", 0, new CurvedNames().readText());
            Checks.due("an empty script", 0, new CurvedNames().runScript());
        });
        sentence(1, "nothing is reported, saved or to be undone", () -> {
            CurvedNames x = new CurvedNames();
            Checks.thrown("no report", Checks.INDEX, () -> x.reportByte(0));
            Checks.thrown("nothing saved", Checks.STATE, x::restore);
            Checks.due("nothing to undo", -1, x.undo());
        });
    }

    private static void feed() {
        sentence(2, "the four bytes of each argument, the most significant byte first", () -> {
            CurvedNames x = new CurvedNames();
            // "name" " abc" "defg" ";nam" "e z;"
            x.feed(0x6e616d65, 0x20616263, 0x64656667, 0x3b6e616d, 0x65207a3b);
            Checks.due("letters", 8, x.readText());
            for (int letter = 0; letter < 7; letter++) {
                Checks.due("letter " + letter, letter, x.letter(letter, 0));
            }
            Checks.due("the last byte but one", 25, x.letter(7, 0));
        });
        sentence(2, "Appends 20 bytes to the buffer", () -> {
            CurvedNames x = fed(3);
            x.feed(0x6e616d65, 0x20616263, 0x64656667, 0x3b6e616d, 0x65207a3b);
            Checks.due("behind 3 bytes", 23, x.truncate(23));
            Checks.due("nothing ahead is lost", 8, x.readText());
            Checks.due("each byte of it", "1 at 0", firstByte(0x80));
            Checks.due("each byte of it", "1 at 0", firstByte(0xff));
            Checks.due("each byte of it", "1 at 0", firstByte(0));
            Checks.due("a blank", "", firstByte(0x20));
        });
        sentence(2, "Returns the number of bytes in the buffer", () -> {
            CurvedNames x = new CurvedNames();
            for (int i = 1; i <= 25; i++) {
                Checks.due("feed " + i, 20 * i, feedBlanks(x));
            }
            CurvedNames y = fed(20);
            y.truncate(1);
            Checks.due("behind 1 byte", 21, feedBlanks(y));
        });
    }

    private static String firstByte(int first) {
        CurvedNames x = new CurvedNames();
        x.feed(first << 24 | 0x202020, BLANKS, BLANKS, BLANKS, BLANKS);
        try {
            x.readText();
        } catch (IllegalArgumentException e) {
            return x.errorCode() + " at " + x.errorPosition();
        }
        return "";
    }

    private static void fullBuffer() {
        sentence(2, "IllegalStateException if it would exceed 500", () -> {
            Checks.due("exactly 500", 500, feedBlanks(fed(480)));
            Checks.due("499", 499, feedBlanks(fed(479)));
            for (int bytes : new int[] {481, 482, 490, 499, 500}) {
                Checks.thrown(bytes + " and 20", Checks.STATE, () -> feedBlanks(fed(bytes)));
            }
        });
        sentence(2, "a feed that is refused changes nothing", () -> {
            for (int bytes : new int[] {481, 500}) {
                CurvedNames x = fed(bytes);
                Checks.thrown("and 20", Checks.STATE, () -> x.feed(-1, -1, -1, -1, -1));
                Checks.thrown("no byte more", Checks.ILLEGAL, () -> x.truncate(bytes + 1));
                Checks.due("no byte less", bytes, x.truncate(bytes));
                Checks.due("no other byte", 0, x.readText());
            }
            Twins.refused(Checks.STATE, TextsBoundsTest::usedAndFull, x -> x.feed(-1, -1, -1, -1, -1));
        });
        sentence(2, "a buffer that was emptied can be filled again", () -> {
            CurvedNames x = fed(500);
            x.readText();
            for (int i = 1; i <= 25; i++) {
                Checks.due("feed " + i, 20 * i, feedBlanks(x));
            }
        });
    }

    private static CurvedNames usedAndFull() {
        CurvedNames x = Twins.used();
        for (int length = 17; length <= 480; length += 20) {
            feedBlanks(x);
        }
        return x;
    }

    private static void truncate() {
        sentence(3, "Truncates the buffer", () -> {
            CurvedNames x = new CurvedNames();
            Checks.put(x, "name ab;name c;");
            x.truncate(8);
            Checks.due("what is ahead", 2, x.readText());
            Checks.put(x, "name ab;name c;");
            x.truncate(15);
            Checks.due("all", 3, x.readText());
            Checks.put(x, "name ab;name c;");
            x.truncate(0);
            Checks.due("nothing", 0, x.readText());
            Checks.put(x, "name abc;");
            x.truncate(7);
            Checks.thrown("a byte behind it is not read", Checks.ILLEGAL, x::readText);
            Checks.due("the text ends there", 7, x.errorPosition());
        });
        sentence(3, "what is appended stands behind the new length", () -> {
            CurvedNames x = new CurvedNames();
            Checks.put(x, "name abcdefgh;name abcdefgh;");
            x.truncate(5);
            // "z;      " and 12 more blanks
            Checks.due("fed", 25, x.feed(0x7a3b2020, 0x20202020, 0x20202020, 0x20202020, 0x20202020));
            Checks.due("one letter", 1, x.readText());
            Checks.due("z", 25, x.letter(0, 0));
        });
        sentence(3, "Returns n", () -> {
            CurvedNames x = fed(500);
            for (int n : new int[] {500, 499, 1, 1, 0, 0}) {
                Checks.due("n", n, x.truncate(n));
            }
        });
        sentence(3, "IllegalArgumentException if n is negative or greater than the present length", () -> {
            CurvedNames x = fed(20);
            for (int n : new int[] {-1, -20, Integer.MIN_VALUE, 21, 22, 500, Integer.MAX_VALUE}) {
                Checks.thrown("" + n, Checks.ILLEGAL, () -> x.truncate(n));
            }
            Checks.due("the present length", 20, x.truncate(20));
            Checks.due("shorter", 10, x.truncate(10));
            Checks.thrown("the length before", Checks.ILLEGAL, () -> x.truncate(20));
            Checks.thrown("greater by 1", Checks.ILLEGAL, () -> x.truncate(11));
            Checks.due("0", 0, x.truncate(0));
            Checks.thrown("1 of none", Checks.ILLEGAL, () -> x.truncate(1));
            Checks.thrown("-1 of none", Checks.ILLEGAL, () -> x.truncate(-1));
        });
        sentence(3, "a truncate that is refused changes nothing", () ->
            Twins.refused(Checks.ILLEGAL, Twins::used, x -> x.truncate(-1), x -> x.truncate(18), x -> x.truncate(500)));
    }

    private static void readText() {
        sentence(4, "Reads the whole buffer as a text", () -> {
            Checks.due("its first byte", "1 at 0", Checks.textError("@name a;"));
            Checks.due("its last byte", "1 at 7", Checks.textError("name a;@"));
            Checks.due("500 bytes", "1 at 499", Checks.textError(" ".repeat(499) + "@"));
            Checks.due("500 bytes", "", Checks.textError(" ".repeat(492) + "name a; "));
        });
        sentence(4, "Returns the number of letters", () -> {
            CurvedNames x = new CurvedNames();
            Checks.due("none in an empty text", 0, x.readText());
            Checks.put(x, "arc 1 1;wide abc 1;flourish abc 1 1 1;");
            Checks.due("none without a name", 0, x.readText());
            Checks.put(x, "name abcdefgh;name abcdefgh;name abcd;");
            Checks.due("20", 20, x.readText());
            Checks.put(x, "name a;");
            Checks.due("1, not 21", 1, x.readText());
        });
        sentence(4, "and empties the buffer, also if the text has an error", () -> {
            CurvedNames x = new CurvedNames();
            Checks.put(x, "name a;");
            x.readText();
            Checks.thrown("empty", Checks.ILLEGAL, () -> x.truncate(1));
            Checks.due("20 are the first", 20, feedBlanks(x));
            x.truncate(0);
            Checks.put(x, "name a");
            Checks.thrown("an error", Checks.ILLEGAL, x::readText);
            Checks.thrown("empty", Checks.ILLEGAL, () -> x.truncate(1));
            Checks.due("20 are the first", 20, feedBlanks(x));
        });
    }

    private static void readTextReplaces() {
        sentence(4, "replaces all that there is", () -> {
            String[] texts = {"", "arc 9 9;name zb;flourish z 1 1 1;sharp 9;seed 5;margin 3;wide z 3;", "name dab;sharp 1;"};
            for (String text : texts) {
                CurvedNames x = Twins.used();
                x.truncate(0);
                Checks.put(x, text);
                x.readText();
                CurvedNames y = Checks.read(text);
                for (int what = 0; what < 14; what++) {
                    Checks.due("setting " + what, y.setting(what), x.setting(what));
                }
                for (int letter = 0; letter < y.setting(1); letter++) {
                    for (int what = 0; what < 13; what++) {
                        Checks.due("letter " + letter + " " + what, y.letter(letter, what), x.letter(letter, what));
                    }
                }
                for (int letter = 0; letter < y.setting(1); letter++) {
                    Checks.due("danger of " + letter, y.danger(letter), x.danger(letter));
                }
                Checks.due("undo", -1, x.undo());
                for (int place = 0; place < 26; place++) {
                    Checks.due("width of " + place, y.setWidth(place, 50), x.setWidth(place, 50));
                }
                for (int i = 0; i < 8 && y.setting(2) > 0; i++) {
                    Checks.due("name " + i, y.flourishLetter(0, i), x.flourishLetter(0, i));
                }
            }
        });
        sentence(4, "replaces also what another text told", () -> {
            for (String behind : new String[] {"", "foo"}) {
                CurvedNames x = new CurvedNames();
                Checks.put(x, "arc 9 9 right hard 9;name zb;flourish z 1 1 1;sharp 9;seed 5;margin 3;wide z 3;" + behind);
                if (behind.isEmpty()) {
                    Checks.due("read", 2, x.readText());
                } else {
                    Checks.thrown("not read", Checks.ILLEGAL, x::readText);
                }
                Checks.put(x, "arc 9 9;name b;");
                x.readText();
                Checks.due("all of both", Twins.all(Checks.read("arc 9 9;name b;")), Twins.all(x));
                Checks.due("width of z", 4, x.setWidth(25, 1));
            }
        });
        sentence(4, "but what is saved and the latest report", () -> {
            CurvedNames x = Twins.used();
            int first = x.reportByte(0);
            x.truncate(0);
            x.readText();
            Checks.due("the report", first, x.reportByte(0));
            Checks.due("the scratches that were saved", 4, x.restore());
            Checks.due("the letters that were saved", 3, x.setting(1));
        });
    }

    private static void readTextRefused() {
        sentence(4, "IllegalArgumentException if the text has an error; only the buffer and the error change then", () -> {
            String[] texts = {"name", "arc 0 1;", "arc 1 1;name z;foo", "seed 7;sharp 9;margin 9;wide dab 9;flourish z 1 1 1;@",
                "seed 1;seed 1;", "arc 1 1;arc 1 1;arc 1 1;arc 1 1;arc 1 1;arc 1 1;arc 1 1;arc 1 1;arc"};
            for (String text : texts) {
                onlyAnError(text, CurvedNames::readText);
            }
        });
    }

    /** The reading of this is refused, leaves the buffer empty, and all else but the error as it was. */
    private static void onlyAnError(String text, Twins.Ask reading) {
        CurvedNames x = Twins.used();
        x.truncate(0);
        Checks.put(x, text);
        Checks.thrown(text, Checks.ILLEGAL, () -> reading.of(x));
        Checks.thrown("the buffer is empty", Checks.ILLEGAL, () -> x.truncate(1));
        CurvedNames y = Twins.used();
        y.truncate(0);
        Checks.due(text + ": all else", Twins.allButError(y), Twins.allButError(x));
    }

    private static void runScript() {
        sentence(5, "Reads the whole buffer as a script", () -> {
            Checks.due("its first byte", "1 at 0", Checks.scriptError("@all;"));
            Checks.due("its last byte", "1 at 4", Checks.scriptError("all;@"));
            Checks.due("500 bytes", "1 at 499", Checks.scriptError(" ".repeat(499) + "@"));
            Checks.due("500 bytes", "", Checks.scriptError(" ".repeat(495) + "all; "));
        });
        sentence(5, "empties the buffer, also if the text has an error", () -> {
            CurvedNames x = new CurvedNames();
            Checks.put(x, "margin 3;");
            x.runScript();
            Checks.thrown("empty", Checks.ILLEGAL, () -> x.truncate(1));
            Checks.put(x, "engrave 7;");
            x.runScript();
            Checks.thrown("empty behind one that ended early", Checks.ILLEGAL, () -> x.truncate(1));
            Checks.put(x, "margin");
            Checks.thrown("an error", Checks.ILLEGAL, x::runScript);
            Checks.thrown("empty", Checks.ILLEGAL, () -> x.truncate(1));
            Checks.due("20 are the first", 20, feedBlanks(x));
        });
        sentence(5, "the number of commands that were done, \"repeat\" not counted", () -> {
            CurvedNames x = new CurvedNames();
            Checks.due("none", 0, Checks.run(x, ""));
            Checks.due("none", 0, Checks.run(x, "repeat 20(repeat 20(););"));
            Checks.due("none", 0, Checks.run(x, "sharpen 0;margin 2;"));
            Checks.due("1", 1, Checks.run(x, "margin 2;"));
            Checks.due("1", 1, Checks.run(x, "repeat 1(repeat 1(margin 2;););"));
            Checks.due("20", 20, Checks.run(x, "repeat 20(margin 2;);"));
            Checks.due("40", 40, Checks.run(x, "repeat 2(repeat 20(margin 2;););"));
            Checks.due("40 at most", 40, Checks.run(x, "repeat 3(repeat 20(margin 2;););"));
        });
    }

    private static void runScriptRefused() {
        sentence(5, "IllegalArgumentException if the text has an error; only the buffer and the error change then", () -> {
            String[] scripts = {"margin 9;all", "all;sharpen 9;margin 9;@", "repeat 0();", "engrave 1;name a;", "mend 0;repeat"};
            for (String script : scripts) {
                onlyAnError(script, CurvedNames::runScript);
            }
        });
    }

    private static void error(String what, CurvedNames x, int code, int position) {
        Checks.due(what + ": code", code, x.errorCode());
        Checks.due(what + ": position", position, x.errorPosition());
    }

    private static void errors() {
        sentence(6, "0 if there was none or no such call; Promise 7: NONE if there was none or no such call", () -> {
            CurvedNames x = new CurvedNames();
            error("no such call", x, 0, -1);
            Checks.thrown("another call that throws", Checks.ILLEGAL, () -> x.setting(14));
            Checks.thrown("another call that throws", Checks.ILLEGAL, () -> x.tightestIf());
            error("no such call", x, 0, -1);
            x.readText();
            error("a text without", x, 0, -1);
            x.runScript();
            error("a script without", x, 0, -1);
            Checks.due("a script that ends early", 0, Checks.run(x, "sharpen 0;"));
            error("has none", x, 0, -1);
        });
        sentence(6, "the code of the error of the latest readText() or runScript(); Promise 7: its position", () -> {
            CurvedNames x = new CurvedNames();
            Checks.put(x, " foo");
            Checks.thrown("text", Checks.ILLEGAL, x::readText);
            error("1", x, 1, 1);
            Checks.put(x, "arc 0");
            Checks.thrown("text", Checks.ILLEGAL, x::readText);
            error("2", x, 2, 4);
            Checks.put(x, "seed 1;seed");
            Checks.thrown("text", Checks.ILLEGAL, x::readText);
            error("3", x, 3, 7);
            Checks.put(x, "arc 1 1;".repeat(8) + "arc");
            Checks.thrown("text", Checks.ILLEGAL, x::readText);
            error("5", x, 5, 64);
            Checks.put(x, "all");
            Checks.thrown("script", Checks.ILLEGAL, x::runScript);
            error("of the script", x, 1, 3);
            x.readText();
            error("a text without", x, 0, -1);
            Checks.put(x, "all");
            Checks.thrown("script", Checks.ILLEGAL, x::runScript);
            x.runScript();
            error("a script without", x, 0, -1);
        });
        sentence(6, "other calls leave the error as it is; Promise 7: and its position", () -> {
            CurvedNames x = Checks.read("arc 9 9;name a;");
            Checks.put(x, "repeat 21");
            Checks.thrown("script", Checks.ILLEGAL, x::runScript);
            Checks.put(x, "ab");
            x.tightestIf();
            error("a word", x, 2, 7);
            Checks.put(x, "1");
            Checks.thrown("no word", Checks.ILLEGAL, x::tightestIf);
            error("no word", x, 2, 7);
            x.save();
            x.engrave(0);
            x.report();
            x.undo();
            x.restore();
            feedBlanks(x);
            x.truncate(0);
            error("others", x, 2, 7);
        });
        sentence(7, "the position of an error at the first byte is 0, not NONE", () -> {
            Checks.due("text", "1 at 0", Checks.textError(";"));
            Checks.due("script", "1 at 0", Checks.scriptError(";"));
            Checks.due("the greatest", "1 at 500", Checks.textError("name a" + " ".repeat(494)));
            Checks.due("the greatest", "1 at 500", Checks.scriptError("all" + " ".repeat(497)));
        });
    }
}
