/** Promises 37 to 44: settings that change, the report, undo and the saved state. */
public final class KeepingTest {
    public static void main(String[] args) {
        promise37();
        promise38();
        promise39();
        promises40And41();
        promise42();
        undoOfEach();
        promises43And44();
        whatIsSaved();
        Checks.end();
    }

    private static void promise37() {
        CurvedNames x = new CurvedNames();
        Checks.due("before", 1, x.setMargin(99));
        Checks.due("before", 99, x.setMargin(0));
        Checks.due("now", 0, x.setting(6));
        Checks.thrown("below", Checks.ILLEGAL, () -> x.setMargin(-1));
        Checks.thrown("above", Checks.ILLEGAL, () -> x.setMargin(100));
        Checks.due("changes", 2, x.setting(13));
    }

    private static void promise38() {
        CurvedNames x = Checks.read("arc 5 90;arc 6 90;name a;");
        Checks.due("before", 6, x.setRadius(1, 99));
        Checks.due("before", 99, x.setRadius(1, 1));
        Checks.due("now", 1, x.arc(1, 0));
        Checks.due("the other", 5, x.arc(0, 0));
        Checks.due("parts", 5400, x.setting(4));
        Checks.due("centre", 4500, x.letter(0, 3));
        Checks.thrown("no such arc", Checks.INDEX, () -> x.setRadius(2, 1));
        Checks.thrown("no such arc", Checks.INDEX, () -> x.setRadius(-1, 1));
        Checks.thrown("the first of both", Checks.INDEX, () -> x.setRadius(2, 0));
        Checks.thrown("below", Checks.ILLEGAL, () -> x.setRadius(0, 0));
        Checks.thrown("above", Checks.ILLEGAL, () -> x.setRadius(0, 100));
        Checks.due("changes", 2, x.setting(13));
    }

    private static void promise39() {
        CurvedNames x = Checks.read("arc 50 90;name az;wide z 7;");
        Checks.due("before", 7, x.setWidth(25, 99));
        Checks.due("before", 99, x.setWidth(25, 1));
        Checks.due("before", 4, x.setWidth(0, 2));
        Checks.due("now", 2000, x.letter(0, 1));
        Checks.due("now", 1000, x.letter(1, 1));
        Checks.thrown("place below", Checks.ILLEGAL, () -> x.setWidth(-1, 1));
        Checks.thrown("place above", Checks.ILLEGAL, () -> x.setWidth(26, 1));
        Checks.thrown("width below", Checks.ILLEGAL, () -> x.setWidth(0, 0));
        Checks.thrown("width above", Checks.ILLEGAL, () -> x.setWidth(0, 100));
        Checks.due("changes", 3, x.setting(13));
    }

    private static void promises40And41() {
        CurvedNames x = Checks.read("arc 10 90; arc 20 45 right hard 7; arc 5 45; name aeh;"
            + "flourish p 1 5 1; flourish q 1 5 2; flourish longname 5 9 1;");
        Checks.due("planned", "a(p)e(longname)h", Checks.report(x));
        x.setMargin(0);
        Checks.thrown("behind the end", Checks.INDEX, () -> x.reportByte(16));
        Checks.thrown("ahead", Checks.INDEX, () -> x.reportByte(-1));
        Checks.due("the report is the one of then", (int) 'a', x.reportByte(0));
        Checks.due("size", 19, x.report());
        x.engrave(1);
        Checks.due("engraved", "(q)a(p)E(longname)h", Checks.report(x));
        Checks.due("only a curve", "", Checks.report(new CurvedNames()));
        Checks.due("a flourish behind the last", "(p)z(p)", Checks.report(Checks.read("arc 99 99;name z;flourish p 1 1 9;")));
        CurvedNames y = Checks.read("arc 50 90 hard 90; name dd; sharp 60;");
        y.engraveAll();
        Checks.due("scratches", "D***D*", Checks.report(y));
        y.setRadius(0, 6);
        y.setWidth(3, 2);
        Checks.due("spoiled", "D***D!*", Checks.report(y));
        y.polish(1);
        Checks.due("planned and spoiled", "D***d!", Checks.report(y));
        Checks.put(y, "name z;");
        y.readText();
        Checks.due("it stays", (int) '!', y.reportByte(5));
        CurvedNames none = new CurvedNames();
        Checks.thrown("no report", Checks.INDEX, () -> none.reportByte(0));
        none.report();
        Checks.thrown("an empty report", Checks.INDEX, () -> none.reportByte(0));
        longestReport();
    }

    private static void longestReport() {
        String name = "name dddddddd; name dddddddd; name dddd; ";
        CurvedNames x = Checks.read("arc 99 180 hard 99; ".repeat(8) + name + "sharp 1; wide d 1; margin 0;"
            + "flourish abcdefgh 1 9 9;flourish abcdefgi 1 9 9;flourish abcdefgj 1 9 9;");
        x.engraveAll();
        // 21 flourishes of 10 bytes, 20 letters, 44 scratches; no room is narrow
        Checks.due("longest", 274, x.report());
        Checks.thrown("behind it", Checks.INDEX, () -> x.reportByte(274));
        Checks.due("last", (int) ')', x.reportByte(273));
        CurvedNames y = Checks.read("arc 1 1 hard 99;" + name + "sharp 1;");
        y.engraveAll();
        Checks.due("spoiled", 20 + 11 + 44, y.report());
        Checks.due("spoiled letters", 11, y.setting(9));
    }

    private static void promise42() {
        CurvedNames x = new CurvedNames();
        Checks.due("none", -1, x.undo());
        for (int margin = 10; margin < 18; margin++) {
            x.setMargin(margin);
        }
        Checks.due("6 are kept", 6, x.setting(13));
        for (int left = 5; left >= 0; left--) {
            Checks.due("left", left, x.undo());
            Checks.due("as before", 11 + left, x.setting(6));
            Checks.due("changes", left, x.setting(13));
        }
        Checks.due("none", -1, x.undo());
        Checks.due("nothing changes", 11, x.setting(6));
        x.setMargin(20);
        x.undo();
        x.setMargin(30);
        x.setMargin(40);
        Checks.due("left", 1, x.undo());
        Checks.due("as before", 30, x.setting(6));
        whatUndoLeaves();
    }

    private static void whatUndoLeaves() {
        CurvedNames x = Checks.read("arc 9 9;name a;");
        x.setMargin(5);
        x.save();
        Checks.due("report", 1, x.report());
        Checks.put(x, "name;");
        Checks.thrown("error", Checks.ILLEGAL, x::readText);
        Checks.put(x, "all;");
        x.undo();
        Checks.due("margin", 1, x.setting(6));
        Checks.due("the report stays", (int) 'a', x.reportByte(0));
        Checks.due("the error stays", 1, x.errorCode());
        Checks.due("its position", 4, x.errorPosition());
        Checks.due("the buffer stays", 4, x.truncate(4));
        x.restore();
        Checks.due("what is saved stays", 5, x.setting(6));
        x.setMargin(7);
        x.restore();
        Checks.due("restore forgets", -1, x.undo());
        x.setMargin(7);
        Checks.put(x, "");
        x.truncate(0);
        x.readText();
        Checks.due("readText forgets", -1, x.undo());
    }

    private static String all(CurvedNames x) {
        StringBuilder text = new StringBuilder();
        for (int what = 0; what < 13; what++) {
            text.append(x.setting(what)).append(' ');
        }
        for (int arc = 0; arc < x.setting(0); arc++) {
            for (int what = 0; what < 7; what++) {
                text.append(x.arc(arc, what)).append(' ');
            }
        }
        for (int letter = 0; letter < x.setting(1); letter++) {
            for (int what = 0; what < 13; what++) {
                text.append(x.letter(letter, what)).append(' ');
            }
        }
        for (int scratch = 0; scratch < x.setting(7); scratch++) {
            for (int what = 0; what < 3; what++) {
                text.append(x.scratch(scratch, what)).append(' ');
            }
        }
        return text.append(Checks.rooms(x)).append(' ').append(x.worth()).toString();
    }

    private static CurvedNames engraved() {
        CurvedNames x = Checks.read("arc 5 90 hard 99;arc 6 90 hard 99;name hello;sharp 20;flourish p 1 1 9;");
        x.engrave(1);
        return x;
    }

    private static void undone(String what, Twins.Ask change) {
        CurvedNames x = engraved();
        String before = all(x);
        change.of(x);
        Checks.due(what + " is a change", 2, x.setting(13));
        Checks.due(what + " changes something", false, before.equals(all(x)));
        x.undo();
        Checks.due(what + " undone", before, all(x));
    }

    private static void undoOfEach() {
        undone("engrave", x -> x.engrave(0));
        undone("engraveAll", CurvedNames::engraveAll);
        undone("mend", x -> x.mend(0));
        undone("polish", x -> x.polish(1));
        undone("sharpen", x -> x.sharpen(9));
        undone("setMargin", x -> x.setMargin(9));
        undone("setRadius", x -> x.setRadius(1, 50));
        undone("setWidth", x -> x.setWidth(7, 9));
        undone("runScript", x -> Checks.run(x, "polish 1; all; margin 7; mend 0; mend 999;"));
    }

    private static void promises43And44() {
        CurvedNames x = Checks.read("arc 50 90 hard 90; name dd; sharp 60; flourish p 1 1 9;");
        Checks.thrown("nothing saved", Checks.STATE, x::restore);
        x.engrave(0);
        Checks.due("save", 3, x.save());
        Checks.due("saving is no change", 1, x.setting(13));
        String before = all(x);
        x.engrave(1);
        x.setRadius(0, 7);
        x.setWidth(3, 9);
        Checks.due("restore", 3, x.restore());
        Checks.due("as saved", before, all(x));
        Checks.due("nothing to undo", 0, x.setting(13));
        x.engrave(1);
        Checks.due("it stays", 3, x.restore());
        Checks.due("as saved", before, all(x));
        Checks.put(x, "arc 1 1;arc 2 2;name abc;flourish q 1 1 1;flourish r 1 1 1;");
        x.readText();
        Checks.due("another text's", 3, x.restore());
        Checks.due("as saved", before, all(x));
        Checks.due("its flourish", (int) 'p', x.flourishLetter(0, 0));
        x.engrave(1);
        Checks.due("in place of it", 4, x.save());
        x.undo();
        Checks.due("restore the later one", 4, x.restore());
    }

    private static void whatIsSaved() {
        CurvedNames x = Checks.read("arc 9 9;name a;");
        x.save();
        Checks.due("report", 1, x.report());
        x.engrave(0);
        Checks.due("report", 1, x.report());
        Checks.put(x, "name;");
        Checks.thrown("error", Checks.ILLEGAL, x::readText);
        Checks.put(x, "all;");
        x.restore();
        Checks.due("planned again", 0, x.setting(8));
        Checks.due("the report stays", (int) 'A', x.reportByte(0));
        Checks.due("the error stays", 4, x.errorPosition());
        Checks.due("the buffer stays", 1, x.runScript());
        Checks.due("what is saved stays as it was", 0, x.restore());
        Checks.due("planned again", 0, x.setting(8));
    }
}
