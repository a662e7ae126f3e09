/** The sentences of promises 40 to 44, the report, undo and the saved state, that name a boundary case. */
public final class KeepingBoundsTest {
    private static final int[] FAR_OUT = {Integer.MIN_VALUE, -2, -1, 1000000000, Integer.MAX_VALUE};

    private KeepingBoundsTest() {
    }

    public static void main(String[] args) {
        report();
        reportIsReplaced();
        reportByte();
        undo();
        undoBringsBack();
        otherWidths();
        save();
        restore();
        restoreBringsBack();
        calls();
        Checks.end();
    }

    private static void sentence(int promise, String words, Runnable test) {
        Checks.sentence("Promise " + promise, words, test);
    }

    private static void report() {
        sentence(40, "for each room, by number, with the letter behind it; no letter behind the last room", () -> {
            Checks.due("nothing at all", "", Checks.report(new CurvedNames()));
            Checks.due("only a room", "(f)", Checks.report(Checks.read("arc 99 99;flourish f 1 1 1;")));
            Checks.due("only a letter", "a", Checks.report(Checks.read("name a;")));
            Checks.due("20 letters", "abcdefghzyxwvutsijkl", Checks.report(Checks.read("name abcdefgh;name zyxwvuts;name ijkl;")));
            Checks.due("a flourish in each", "(f)a(f)z(f)", Checks.report(Checks.read("arc 99 99;name az;flourish f 1 1 9;")));
            Checks.due("in the largest room", "a(f)z", Checks.report(Checks.read("arc 99 99;name az;flourish f 1 1 1;")));
        });
        sentence(40, "the NAME of the flourish in it, in parentheses (bytes 40 and 41), if there is one", () -> {
            CurvedNames x = Checks.read("arc 99 99;flourish abcdefgh 1 1 1;");
            Checks.due("10 bytes", 10, x.report());
            Checks.due("(", 40, x.reportByte(0));
            Checks.due("the first", 97, x.reportByte(1));
            Checks.due("the 8th", 104, x.reportByte(8));
            Checks.due(")", 41, x.reportByte(9));
            x.setRadius(0, 1);
            Checks.due("none fits", 0, x.report());
        });
        sentence(40, "the letter (a to z, or A to Z if it is engraved), an exclamation mark if it is spoiled, an asterisk for each scratch", () -> {
            CurvedNames x = Checks.read("arc 1 9 hard 99;name azd;sharp 1;");
            Checks.due("planned", "azd", Checks.report(x));
            x.engrave(0);
            Checks.due("planned and spoiled", "A*z!d", Checks.report(x));
            x.engraveAll();
            Checks.due("the last is spoiled, too", "A*Z!**D!****", Checks.report(x));
            x.mend(0);
            Checks.due("mended", "AZ**D!****", Checks.report(x));
            x.polish(1);
            Checks.due("polished", "AzD****", Checks.report(x));
            CurvedNames y = Checks.read("arc 80 1 hard 99;arc 60 8 hard 99;name aaaaa;wide a 1;seed 326;sharp 98;");
            y.engrave(0);
            Checks.due("a scratch as long as the room", "A*aaaa", Checks.report(y));
            y.setRadius(0, 79);
            Checks.due("by one part longer", "A*a!aaa", Checks.report(y));
        });
        sentence(40, "@return the number of its bytes", () -> {
            CurvedNames x = Checks.read("arc 99 180 hard 99;".repeat(8) + "name dddddddd;name dddddddd;name dddd;sharp 1;wide d 1;margin 0;"
                + "flourish abcdefgh 1 9 9;flourish abcdefgi 1 9 9;flourish abcdefgj 1 9 9;");
            x.engraveAll();
            Checks.due("the longest: 21 flourishes, 20 letters, 44 scratches", 210 + 20 + 44, x.report());
            Checks.due("its last byte", 41, x.reportByte(273));
            Checks.thrown("no other", Checks.INDEX, () -> x.reportByte(274));
            Checks.due("0", 0, new CurvedNames().report());
        });
        sentence(40, "an exclamation mark (byte 33) if it is spoiled, .. also in the longest report", () -> {
            CurvedNames x = Checks.read("arc 99 9 hard 99;arc 23 162 hard 99;arc 99 9;name dddddddd;name dddddddd;name dddd;sharp 1;"
                + "wide d 1;margin 0;flourish abcdefgh 1 9 9;flourish abcdefgi 1 9 9;flourish abcdefgj 1 9 9;");
            x.engraveAll();
            Checks.due("spoiled letters", 10, x.setting(9));
            Checks.due("21 flourishes, 20 letters, 44 scratches and those", 210 + 20 + 44 + 10, x.report());
            Checks.due("its last byte", 41, x.reportByte(283));
            Checks.thrown("no other", Checks.INDEX, () -> x.reportByte(284));
        });
    }

    private static void reportIsReplaced() {
        sentence(40, "in place of the one before", () -> {
            CurvedNames x = Checks.read("arc 99 99;name ab;flourish f 1 1 9;");
            Checks.due("before", 11, x.report());
            x.setRadius(0, 1);
            Checks.due("shorter", 2, x.report());
            Checks.due("its last byte", 98, x.reportByte(1));
            Checks.thrown("nothing of the one before", Checks.INDEX, () -> x.reportByte(2));
            x.readText();
            Checks.due("an empty one", 0, x.report());
            Checks.thrown("nothing of the one before", Checks.INDEX, () -> x.reportByte(0));
        });
        sentence(40, "a report changes nothing else", () -> {
            CurvedNames x = Twins.used();
            CurvedNames y = Twins.used();
            x.report();
            x.report();
            y.report();
            Checks.due("all of both", Twins.all(y), Twins.all(x));
            CurvedNames z = Checks.read("arc 9 9;name a;");
            z.setMargin(3);
            z.report();
            Checks.due("it is no change", 1, z.setting(13));
        });
    }

    private static void reportByte() {
        sentence(41, "IndexOutOfBoundsException if there is no such byte", () -> {
            CurvedNames x = Checks.read("name ab;");
            x.report();
            Checks.due("0", 97, x.reportByte(0));
            Checks.due("the last", 98, x.reportByte(1));
            Checks.thrown("2", Checks.INDEX, () -> x.reportByte(2));
            for (int i : FAR_OUT) {
                Checks.thrown("" + i, Checks.INDEX, () -> x.reportByte(i));
            }
            Twins.refused(Checks.INDEX, Twins::used, y -> y.reportByte(-1), y -> y.reportByte(100));
        });
        sentence(41, "or there was no report", () -> {
            CurvedNames x = Checks.read("arc 9 9;name ab;");
            x.engrave(0);
            Checks.thrown("0", Checks.INDEX, () -> x.reportByte(0));
            Checks.thrown("-1", Checks.INDEX, () -> x.reportByte(-1));
            CurvedNames empty = new CurvedNames();
            empty.report();
            Checks.thrown("of an empty one", Checks.INDEX, () -> empty.reportByte(0));
        });
        sentence(41, "this byte of the latest report", () -> {
            CurvedNames x = Checks.read("arc 9 9;name ab;");
            x.report();
            x.engraveAll();
            Checks.due("not of now", 97, x.reportByte(0));
            x.undo();
            x.save();
            x.restore();
            x.truncate(0);
            x.readText();
            Checks.due("it stays", 98, x.reportByte(1));
            Checks.thrown("and its length", Checks.INDEX, () -> x.reportByte(2));
        });
    }

    private static void undo() {
        sentence(42, "NONE, and nothing changes, if there is none", () -> {
            Checks.due("a new object", -1, new CurvedNames().undo());
            Checks.due("behind a text", -1, Checks.read("name a;").undo());
            Twins.only(KeepingBoundsTest::withoutUndo, CurvedNames::undo, CurvedNames::undo);
            CurvedNames x = withoutUndo();
            Checks.due("all undone", -1, x.undo());
            Checks.due("no changes", 0, x.setting(13));
            x.setMargin(9);
            Checks.due("a change behind that", 0, x.undo());
        });
        sentence(42, "the number of calls that can still be undone", () -> {
            CurvedNames x = new CurvedNames();
            for (int i = 0; i < 7; i++) {
                x.setMargin(10 + i);
            }
            for (int left = 5; left >= 0; left--) {
                Checks.due("left", left, x.undo());
                Checks.due("left", left, x.setting(13));
            }
            Checks.due("none", -1, x.undo());
            Checks.due("the margin of the first of 7", 10, x.setting(6));
        });
        sentence(42, "Undoes the latest call that can be undone", () -> {
            CurvedNames x = new CurvedNames();
            x.setMargin(10);
            x.sharpen(5);
            x.undo();
            Checks.due("the latest", "10 50", x.setting(6) + " " + x.setting(5));
            x.setWidth(0, 9);
            x.undo();
            x.undo();
            Checks.due("the first", "1 50 4", x.setting(6) + " " + x.setting(5) + " " + x.setWidth(0, 4));
        });
    }

    private static void otherWidths() {
        sentence(42, "also the width of a letter that is not in the name", () -> {
            CurvedNames x = Checks.read("name a;");
            x.setWidth(25, 9);
            x.undo();
            Checks.due("undone", 4, x.setWidth(25, 5));
            x.save();
            x.setWidth(25, 6);
            x.restore();
            Checks.due("restored", 5, x.setWidth(25, 4));
        });
    }

    /** The four changes of a used plate are undone. */
    private static CurvedNames withoutUndo() {
        CurvedNames x = Twins.used();
        for (int left = 3; left >= 0; left--) {
            Checks.due("left", left, x.undo());
        }
        return x;
    }

    private static void undoBringsBack() {
        sentence(42, "all is as before the call", () -> {
            Twins.Ask[] changes = {x -> x.engrave(1), CurvedNames::engraveAll, x -> x.mend(0), x -> x.polish(0), x -> x.sharpen(9),
                x -> x.setMargin(9), x -> x.setRadius(1, 9), x -> x.setWidth(0, 9)};
            for (Twins.Ask change : changes) {
                Twins.only(Twins::used, x -> {
                    change.of(x);
                    return x.undo();
                });
            }
            Twins.only(KeepingBoundsTest::withoutBuffer, x -> {
                Checks.run(x, "all;mend 0;polish 1;sharpen 3;margin 9;");
                return x.undo();
            });
        });
    }

    /** A used plate with an empty buffer, behind a script without an error. */
    private static CurvedNames withoutBuffer() {
        CurvedNames x = Twins.used();
        x.truncate(0);
        x.runScript();
        return x;
    }

    private static void save() {
        sentence(43, "@return the scratches", () -> {
            Checks.due("none", 0, new CurvedNames().save());
            CurvedNames x = Checks.read("arc 9 9 hard 99;name dddddddd;name ddd;sharp 1;");
            x.engraveAll();
            Checks.due("44", 44, x.save());
        });
        sentence(43, "Saves all but the buffer, the error, the report, what can be undone and what is saved", () -> {
            CurvedNames x = Checks.read("arc 9 9 hard 99;name a;sharp 1;");
            x.setMargin(5);
            x.report();
            Checks.put(x, "foo");
            Checks.thrown("an error", Checks.ILLEGAL, x::readText);
            Checks.put(x, "name xyz;");
            x.save();
            Checks.due("can be undone still", 1, x.setting(13));
            x.engrave(0);
            x.report();
            x.restore();
            Checks.due("the report of later", (int) 'A', x.reportByte(0));
            Checks.due("the error", 1, x.errorCode());
            Checks.due("nothing to undo", 0, x.setting(13));
            Checks.due("the buffer", 3, x.readText());
            Checks.due("what is saved", 0, x.restore());
        });
        sentence(43, "in place of an earlier one", () -> {
            CurvedNames x = new CurvedNames();
            x.setMargin(5);
            x.save();
            x.setMargin(6);
            x.save();
            x.setMargin(7);
            x.restore();
            Checks.due("the later one", 6, x.setting(6));
            x.undo();
            x.restore();
            Checks.due("the later one", 6, x.setting(6));
        });
        sentence(43, "saving changes nothing else", () -> {
            CurvedNames x = Twins.used();
            CurvedNames y = Twins.used();
            x.save();
            x.save();
            y.save();
            Checks.due("all of both", Twins.all(y), Twins.all(x));
        });
    }

    private static void restore() {
        sentence(44, "IllegalStateException if nothing was saved", () -> {
            Checks.thrown("a new object", Checks.STATE, () -> new CurvedNames().restore());
            Twins.refused(Checks.STATE, KeepingBoundsTest::unsaved, CurvedNames::restore, CurvedNames::restore);
            CurvedNames x = unsaved();
            x.save();
            Checks.due("saved", 4, x.restore());
        });
        sentence(44, "Returns the scratches then", () -> {
            CurvedNames x = unsaved();
            x.undo();
            x.save();
            x.engraveAll();
            Checks.due("none", 0, x.restore());
            x.engraveAll();
            x.save();
            x.polish(0);
            Checks.due("4", 4, x.restore());
        });
        sentence(44, "Restores what was saved, which stays", () -> {
            CurvedNames x = unsaved();
            x.save();
            for (int i = 0; i < 3; i++) {
                x.mend(0);
                x.setMargin(50);
                Checks.due("again", 4, x.restore());
                Checks.due("again", 1, x.setting(6));
                Checks.due("mends", 0, x.letter(0, 11));
            }
            Checks.put(x, "name z;");
            x.readText();
            Checks.due("also behind another text", 4, x.restore());
            Checks.due("its letter", 3, x.letter(0, 0));
        });
    }

    private static CurvedNames unsaved() {
        CurvedNames x = Checks.read("arc 9 9 hard 99;name d;sharp 1;");
        x.engraveAll();
        return x;
    }

    private static void restoreBringsBack() {
        sentence(44, "all that was saved is there again", () -> {
            CurvedNames x = Twins.used();
            x.save();
            x.engraveAll();
            x.polish(0);
            x.setRadius(0, 1);
            x.setWidth(0, 99);
            x.setMargin(77);
            x.sharpen(50);
            x.restore();
            CurvedNames y = Twins.used();
            y.save();
            y.restore();
            Checks.due("all of both", Twins.all(y), Twins.all(x));
        });
        sentence(44, "also what another text replaced", () -> {
            CurvedNames x = Twins.used();
            x.save();
            x.truncate(0);
            Checks.put(x, "arc 1 1;arc 2 2;arc 3 3;name zyxwv;wide dab 50;flourish qrs 9 9 9;seed 9;sharp 9;margin 9;");
            x.readText();
            x.restore();
            CurvedNames y = Twins.used();
            y.save();
            y.truncate(0);
            y.readText();
            y.restore();
            Checks.due("all of both", Twins.all(y), Twins.all(x));
        });
    }

    private static void calls() {
        sentence(42, "An object is used for at most 512 calls: the 512th is answered as any other", () -> {
            CurvedNames x = new CurvedNames();
            for (int call = 1; call <= 510; call++) {
                x.setMargin(call % 100);
            }
            Checks.due("the 511th", 5, x.undo());
            Checks.due("the 512th", 9, x.setting(6));
        });
    }
}
