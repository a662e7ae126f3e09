/** Promises 1 to 7: a new object, the buffer, texts, scripts and their errors. */
public final class TextsTest {
    public static void main(String[] args) {
        promise1();
        promise2();
        promise3();
        promise4();
        textErrors();
        texts();
        promise5();
        scriptErrors();
        scriptsThatEndEarly();
        promises6And7();
        Checks.end();
    }

    private static void promise1() {
        CurvedNames x = new CurvedNames();
        int[] due = {0, 0, 0, 0, 0, 50, 1, 0, 0, 0, 1, 0, 0, 0};
        for (int what = 0; what < due.length; what++) {
            Checks.due("new: setting " + what, due[what], x.setting(what));
        }
        Checks.due("new: width", 4, x.setWidth(25, 1));
        Checks.due("new: buffer", 0, x.truncate(0));
        Checks.thrown("new: buffer is empty", Checks.ILLEGAL, () -> x.truncate(1));
        Checks.thrown("new: nothing saved", Checks.STATE, x::restore);
        Checks.thrown("new: no report", Checks.INDEX, () -> x.reportByte(0));
        Checks.due("NONE", -1, CurvedNames.NONE);
    }

    private static void promise2() {
        CurvedNames x = new CurvedNames();
        // name abcd;name efgh;
        Checks.due("feed", 20, x.feed(0x6e616d65, 0x20616263, 0x643b6e61, 0x6d652065, 0x6667683b));
        Checks.due("fed text", 8, x.readText());
        Checks.due("fed letter", 7, x.letter(7, 0));
        for (int i = 1; i <= 25; i++) {
            Checks.due("feed " + i, 20 * i, x.feed(0x20202020, 0x20202020, 0x0a0a0a0a, 0x20202020, 0x20202020));
        }
        Checks.thrown("feed beyond", Checks.STATE, () -> x.feed(0, 0, 0, 0, 0));
        Checks.due("still 500", 500, x.truncate(500));
        Checks.due("481", 481, x.truncate(481));
        Checks.thrown("feed by one beyond", Checks.STATE, () -> x.feed(0, 0, 0, 0, 0));
        Checks.thrown("unchanged", Checks.ILLEGAL, () -> x.truncate(482));
        Checks.due("480", 480, x.truncate(480));
        Checks.due("exactly 500", 500, x.feed(-1, -1, -1, -1, -1));
        Checks.thrown("bytes above 127", Checks.ILLEGAL, x::readText);
        Checks.due("their code", 1, x.errorCode());
        Checks.due("their position", 480, x.errorPosition());
        Checks.due("500 bytes to the last one", 1, Checks.read("name a" + " ".repeat(493) + ";").setting(1));
        Checks.due("500 blanks are no error", 0, Checks.read(" \n".repeat(250)).errorCode());
    }

    private static void promise3() {
        CurvedNames x = new CurvedNames();
        x.feed(0x6e616d65, 0x20616263, 0x643b6e61, 0x6d652065, 0x6667683b);
        Checks.thrown("below 0", Checks.ILLEGAL, () -> x.truncate(-1));
        Checks.thrown("above", Checks.ILLEGAL, () -> x.truncate(21));
        Checks.thrown("far above", Checks.ILLEGAL, () -> x.truncate(Integer.MAX_VALUE));
        Checks.due("same", 20, x.truncate(20));
        Checks.due("shorter", 10, x.truncate(10));
        Checks.thrown("not longer again", Checks.ILLEGAL, () -> x.truncate(11));
        Checks.due("truncated text", 4, x.readText());
        cut("name abcd", 8, 8);
        cut("seed 56", 6, 6);
        cut("name a; ;", 8, -1);
        cut("name a;;", 7, -1);
        cut("arc 1 11;", 7, 7);
        Checks.put(x, "abcdefgh");
        x.truncate(2);
        Checks.due("a word that was cut is no error", -4000, x.tightestIf());
    }

    /** What stood behind the length must not be read. */
    private static void cut(String text, int length, int position) {
        CurvedNames x = new CurvedNames();
        Checks.put(x, text);
        x.truncate(length);
        if (position == -1) {
            x.readText();
        } else {
            Checks.thrown(text, Checks.ILLEGAL, x::readText);
        }
        Checks.due("cut: " + text, position, x.errorPosition());
    }

    private static void promise4() {
        CurvedNames x = Checks.read("arc 9 9 hard 0; name abc; flourish f 1 1 1; wide a 9; seed 7; sharp 1; margin 0;");
        x.engraveAll();
        Checks.due("strokes", 6, x.setting(12));
        x.save();
        Checks.due("report", 3, x.report());
        Checks.put(x, "name z; name zz");
        Checks.thrown("an error", Checks.ILLEGAL, x::readText);
        Checks.thrown("the buffer is empty", Checks.ILLEGAL, () -> x.truncate(1));
        Checks.due("letters stay", 3, x.setting(1));
        Checks.due("undo stays", 1, x.setting(13));
        Checks.due("engraved stay", 3, x.setting(8));
        Checks.put(x, "name zz;");
        Checks.due("read", 2, x.readText());
        Checks.thrown("the buffer is empty", Checks.ILLEGAL, () -> x.truncate(1));
        int[] due = {0, 2, 0, 0, 0, 50, 1, 0, 0, 0, 1, 0, 0, 0};
        for (int what = 0; what < due.length; what++) {
            Checks.due("replaced: setting " + what, due[what], x.setting(what));
        }
        Checks.due("width of a", 4, x.setWidth(0, 1));
        Checks.due("mends", 0, x.letter(0, 11));
        Checks.due("the report stays", (int) 'A', x.reportByte(0));
        Checks.due("what is saved stays", x.restore(), x.setting(7));
        Checks.due("its letters", 3, x.setting(1));
        Checks.due("no text at all", 0, Checks.read("").setting(1));
        Checks.put(x, "wide a 5;");
        Checks.due("no letters", 0, x.readText());
        Checks.due("no engraved letter is left", 0, x.setting(8));
    }

    private static void textError(String text, int code, int position) {
        CurvedNames x = Checks.read("name ab;");
        Checks.put(x, text);
        Checks.thrown(text, Checks.ILLEGAL, x::readText);
        Checks.due(text + " code", code, x.errorCode());
        Checks.due(text + " position", position, x.errorPosition());
        Checks.due(text + " changes nothing", 2, x.setting(1));
    }

    private static void textErrors() {
        textError("foo;", 1, 0);
        textError(";", 1, 0);
        textError("7;", 1, 0);
        textError("arc", 1, 3);
        textError("arc \n ", 1, 6);
        textError("arc;", 1, 3);
        textError("arc 1;", 1, 5);
        textError("arc 1 2", 1, 7);
        textError("arc 1 2 3;", 1, 8);
        textError("arc 0 1;", 2, 4);
        textError("arc 100 1;", 2, 4);
        textError("arc 0 @", 2, 4);
        textError("arc 1 0;", 2, 6);
        textError("arc 1 181;", 2, 6);
        textError("arc 1 2 right right;", 1, 14);
        textError("arc 1 2 hard;", 1, 12);
        textError("arc 1 2 hard 100;", 2, 13);
        textError("arc 1 2 hard 9 right;", 1, 15);
        textError("arc 1 2 left;", 1, 8);
        textError("arc 0001 2;", 1, 4);
        textError("arc 1 2 ; ARC", 1, 10);
        textError("name;", 1, 4);
        textError("name 7;", 1, 5);
        textError("name abcdefghi;", 1, 5);
        textError("name a b;", 1, 7);
        textError("name a\u00e9;", 1, 6);
        textError("name a\t;", 1, 6);
        textError("name a`;", 1, 6);
        textError("name a{;", 1, 6);
        textError("name abcdefgh;name abcdefgh;name abcde;", 5, 33);
        textError("name abcdefgh;name abcdefgh;name abcdefghi;", 1, 33);
        textError("wide a;", 1, 6);
        textError("wide 5;", 1, 5);
        textError("wide a 0;", 2, 7);
        textError("wide a 100;", 2, 7);
        textError("flourish 1 1 1 1;", 1, 9);
        textError("flourish a 0 1 1;", 2, 11);
        textError("flourish a 100 1 1;", 2, 11);
        textError("flourish a 1 0 1;", 2, 13);
        textError("flourish a 1 100 1;", 2, 13);
        textError("flourish a 1 1 0;", 2, 15);
        textError("flourish a 1 1 10;", 2, 15);
        textError("flourish a 1 1;", 1, 14);
        textError("flourish a 1 1 1;flourish a 1 1 1;", 3, 26);
        textError("flourish a 1 1 1;flourish b 1 1 1;flourish a 0 1 1;", 3, 43);
        String six = "";
        for (char c = 'a'; c < 'g'; c++) {
            six += "flourish " + c + " 1 1 1;";
        }
        textError(six + "flourish a", 5, six.length());
        textError(six + "flourisha", 1, six.length());
        textError("arc 1 1;".repeat(8) + " arc", 5, 65);
        textError("seed 1;seed 2;", 3, 7);
        textError("seed;", 1, 4);
        textError("sharp 0;", 2, 6);
        textError("sharp 100;", 2, 6);
        textError("sharp 1;seed 1;sharp 2;", 3, 15);
        textError("margin 100;", 2, 7);
        textError("margin 1;seed 1;margin", 3, 16);
        textError("seed 1000;", 1, 5);
        textError("(", 1, 0);
        textError("name a)", 1, 6);
        textError("engrave 1;", 1, 0);
        String[] near = {"brc 1 1;", "arcs 1 1;", "ar 1 1;", "bame a;", "names a;", "xide a 1;", "wida a 1;", "glourish a 1 1 1;",
            "flouris a 1 1 1;", "teed 1;", "tharp 1;", "nargin 1;", "margi 1;", "ard 1 1;"};
        for (String text : near) {
            textError(text, 1, 0);
        }
        textError("arc 1 1 sight;", 1, 8);
        textError("arc 1 1 bard 1;", 1, 8);
    }

    private static void texts() {
        CurvedNames x = Checks.read("arc5 6right hard7;\n\narc 99 180hard 0;arc 1 1 hard 99;name right;name hard;"
            + "flourish arc 1 2 3;flourish ar 99 99 9;wide name 99;wide a 3;wide a 1;seed 0;sharp 99;margin 99;");
        Checks.due("arcs", 3, x.setting(0));
        Checks.due("radius", 5, x.arc(0, 0));
        Checks.due("right", 1, x.arc(0, 2));
        Checks.due("hard", 7, x.arc(0, 3));
        Checks.due("left", 0, x.arc(1, 2));
        Checks.due("degrees", 180, x.arc(1, 1));
        Checks.due("hard 0", 0, x.arc(1, 3));
        Checks.due("letters", 9, x.setting(1));
        Checks.due("last width counts", 1, x.setWidth(0, 1));
        Checks.due("width of n", 99, x.setWidth(13, 1));
        Checks.due("seed 0", 0, x.setting(10));
        Checks.due("sharp", 99, x.setting(5));
        Checks.due("margin", 99, x.setting(6));
        Checks.due("hard 30 without it", 30, Checks.read("arc 1 1;").arc(0, 3));
        Checks.due("20 letters", 20, Checks.read("name abcdefgh;name abcdefgh;name abcd;").setting(1));
        Checks.due("seed 999", 999, Checks.read("seed 999;").setting(10));
        Checks.due("leading zeros", 9, Checks.read("arc 009 001;").arc(0, 0));
        Checks.due("margin 0", 0, Checks.read("margin 0;").setting(6));
        for (int i = 0; i < 2; i++) {
            Checks.put(x, "seed 5;sharp 6;margin 7;");
            Checks.due("each may stand once in each text", 0, x.readText());
        }
        Checks.put(x, "seed 5;sharp 6;margin 7;arc 0");
        Checks.thrown("a text with an error", Checks.ILLEGAL, x::readText);
        Checks.put(x, "seed 8;sharp 9;margin 10;");
        Checks.due("also behind a text with an error", 0, x.readText());
        Checks.due("seed", 8, x.setting(10));
        Checks.due("a name of flourishes that begins another", 2,
            Checks.read("flourish ab 1 1 1;flourish abc 1 1 1;").setting(2));
    }

    private static CurvedNames plate() {
        return Checks.read("arc 50 90;name abc;");
    }

    private static void promise5() {
        CurvedNames x = plate();
        Checks.due("an empty script", 0, Checks.run(x, " \n"));
        Checks.due("it can be undone", 1, x.setting(13));
        Checks.due("commands", 5, Checks.run(x, "engrave 1;all;polish 2;sharpen 9;margin 5;"));
        Checks.due("as a whole", 2, x.setting(13));
        Checks.due("engraved", 2, x.setting(8));
        Checks.due("margin", 5, x.setting(6));
        // 50, less 2 + 1 + 3 strokes, and 9 more
        Checks.due("sharp", 53, x.setting(5));
        Checks.thrown("the buffer is empty", Checks.ILLEGAL, () -> x.truncate(1));
        x.undo();
        Checks.due("undone as a whole", 0, x.setting(8));
        Checks.due("repeat is not counted", 6, Checks.run(x, "repeat 3(engrave0;polish 0;);"));
        Checks.due("mends", 3, x.letter(0, 11));
        CurvedNames y = plate();
        Checks.due("repeat in repeat", 13, Checks.run(y, "repeat 2(sharpen 1;repeat 5(margin 7;);); margin 8;"));
        Checks.due("margin behind it", 8, y.setting(6));
        Checks.due("sharpened twice", 52, y.setting(5));
        Checks.due("empty parentheses", 1, Checks.run(y, "repeat 20(repeat 20();repeat 20(););margin 3;"));
        CurvedNames z = Checks.read("arc 50 90 hard 99;name d;sharp 1;");
        Checks.due("mend in a script", 2, Checks.run(z, "all;mend 0;"));
        Checks.due("scratches", 3, z.setting(7));
    }

    private static void scriptError(String text, int code, int position) {
        CurvedNames x = plate();
        Checks.put(x, text);
        Checks.thrown(text, Checks.ILLEGAL, x::runScript);
        Checks.due(text + " code", code, x.errorCode());
        Checks.due(text + " position", position, x.errorPosition());
        Checks.due(text + " does nothing", 0, x.setting(8));
        Checks.due(text + " is not undone", 0, x.setting(13));
        Checks.thrown(text + " empties the buffer", Checks.ILLEGAL, () -> x.truncate(1));
    }

    private static void scriptErrors() {
        scriptError("all;foo;", 1, 4);
        scriptError("all", 1, 3);
        scriptError("all 1;", 1, 4);
        scriptError("all;;", 1, 4);
        scriptError("all;engrave;", 1, 11);
        scriptError("engrave 1000;", 1, 8);
        scriptError("mend a;", 1, 5);
        scriptError("all;)", 1, 4);
        scriptError("arc 1 1;", 1, 0);
        scriptError("repeat(all;);", 1, 6);
        scriptError("repeat 2 all;", 1, 9);
        scriptError("repeat 2(all);", 1, 12);
        scriptError("repeat 2(all;)", 1, 14);
        scriptError("repeat 2(all;", 1, 13);
        scriptError("repeat 2(all; ", 1, 14);
        scriptError("repeat 2(all;);)", 1, 15);
        scriptError("repeat 0(all;);", 2, 7);
        scriptError("repeat 21(all;);", 2, 7);
        scriptError("repeat 1(repeat 1(repeat 1(all;);););", 3, 18);
        scriptError("repeat 1(repeat 1(all;);repeat 1(all;repeat", 3, 37);
        for (String text : new String[] {"fngrave 1;", "bll;", "al;", "nend 1;", "qolish 1;", "tharpen 1;", "nargin 1;", "sepeat 1();"}) {
            scriptError(text, 1, 0);
        }
        scriptError("all;".repeat(30) + "all;", 5, 120);
        scriptError("all;".repeat(30) + "foo;", 1, 120);
        scriptError("all;".repeat(30) + "repeat 0();", 5, 120);
        scriptError("repeat 1(" + "all;".repeat(30) + ");", 5, 125);
        scriptError("repeat 1(repeat 1(" + "all;".repeat(28) + "all;", 5, 130);
        scriptError("repeat 1(repeat 1(" + "all;".repeat(28) + "repeat", 3, 130);
    }

    private static void scriptsThatEndEarly() {
        CurvedNames x = plate();
        Checks.due("ends at a throw", 1, Checks.run(x, "all;engrave 0;margin 9;"));
        Checks.due("what was done stays", 3, x.setting(8));
        Checks.due("nothing behind it", 1, x.setting(6));
        Checks.due("one to undo", 1, x.setting(13));
        Checks.due("no such letter", 0, Checks.run(x, "engrave 3;margin 9;"));
        Checks.due("no such scratch", 0, Checks.run(x, "mend 0;margin 9;"));
        Checks.due("none planned", 0, Checks.run(x, "all;margin 9;"));
        Checks.due("no such sharpening", 0, Checks.run(x, "sharpen 0;margin 9;"));
        Checks.due("no such sharpening", 0, Checks.run(x, "sharpen 100;margin 9;"));
        Checks.due("no such margin", 0, Checks.run(x, "margin 100;margin 9;"));
        Checks.due("no such letter", 0, Checks.run(x, "polish 3;margin 9;"));
        Checks.due("margin stays", 1, x.setting(6));
        Checks.due("from within repeats", 1, Checks.run(x, "repeat 2(repeat 2(polish 0;););margin 9;"));
        Checks.due("margin stays", 1, x.setting(6));
        Checks.due("no mends left", 5, Checks.run(x, "engrave 0;repeat 9(polish 0;engrave 0;);margin 9;"));
        Checks.due("40 commands", 40, Checks.run(x, "repeat 20(margin 3;repeat 2(margin 4;););margin 5;"));
        Checks.due("the last one", 3, x.setting(6));
        Checks.due("exactly 40", 40, Checks.run(x, "repeat 20(margin 3;margin 4;);margin 101;"));
        Checks.due("30 commands", 30, Checks.run(x, "margin 5;".repeat(30)));
        Checks.due("29 repeats", 1, Checks.run(x, "repeat 20();".repeat(29) + "margin 6;"));
        Checks.due("behind them", 6, x.setting(6));
        Checks.due("in 29 repeats", 1, Checks.run(x, "repeat 20();".repeat(28) + "repeat 1(margin 7;);"));
        Checks.due("in the last one", 7, x.setting(6));
        Checks.due("all in one", 20, Checks.run(x, "repeat 20(" + "repeat 20();".repeat(28) + "margin 8;);"));
        Checks.due("behind them", 8, x.setting(6));
    }

    private static void promises6And7() {
        CurvedNames x = plate();
        Checks.due("no call yet", 0, x.errorCode());
        Checks.due("no call yet", -1, x.errorPosition());
        Checks.put(x, "arc 0");
        Checks.thrown("text", Checks.ILLEGAL, x::readText);
        Checks.put(x, "1");
        Checks.thrown("tightestIf tells no error", Checks.ILLEGAL, x::tightestIf);
        x.setMargin(3);
        x.save();
        x.undo();
        x.restore();
        Checks.due("code stays", 2, x.errorCode());
        Checks.due("position stays", 4, x.errorPosition());
        Checks.run(x, "");
        Checks.due("no error", 0, x.errorCode());
        Checks.due("no error", -1, x.errorPosition());
        Checks.put(x, "all");
        Checks.thrown("script", Checks.ILLEGAL, x::runScript);
        Checks.due("code", 1, x.errorCode());
        Checks.due("position", 3, x.errorPosition());
        x.readText();
        Checks.due("no error", 0, x.errorCode());
        Checks.due("no error", -1, x.errorPosition());
    }
}
