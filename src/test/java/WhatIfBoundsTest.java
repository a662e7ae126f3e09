/** The sentences of promises 25 to 31, what would be, that name a boundary case. */
public final class WhatIfBoundsTest {
    private static final int[] FAR_OUT = {Integer.MIN_VALUE, -2, -1, 1000000000, Integer.MAX_VALUE};
    /** Each stroke slips. */
    private static final String MANY = "arc 50 90 hard 99;name dddddddd;name dddddddd;name dddd;sharp 1;";

    private WhatIfBoundsTest() {
    }

    public static void main(String[] args) {
        danger();
        slipsIf();
        leastSharp();
        leastGrowth();
        mostWidth();
        tightestIf();
        tightestIfEmpties();
        spare();
        Checks.end();
    }

    private static void sentence(int promise, String words, Runnable test) {
        Checks.sentence("Promise " + promise, words, test);
    }

    private static void danger() {
        sentence(25, "twice the difference, 0 to 100", () -> {
            int[][] due = {{1, 100}, {39, 100}, {40, 100}, {41, 98}, {89, 2}, {90, 0}, {91, 0}, {99, 0}};
            for (int[] row : due) {
                CurvedNames x = Checks.read("arc 9 9 hard 90;name a;sharp " + row[0] + ";");
                Checks.due("sharp " + row[0], row[1], x.danger(0));
            }
            Checks.due("the plate is soft", 0, Checks.read("arc 9 9 hard 0;name a;sharp 99;").danger(0));
            Checks.due("no arcs", 0, Checks.read("name a;sharp 1;").danger(0));
        });
        sentence(25, "if it was engraved now (whether it is or not)", () -> {
            CurvedNames x = Checks.read("arc 9 9 hard 90;name da;sharp 70;");
            Checks.due("planned", 40, x.danger(0));
            x.engrave(0);
            Checks.due("engraved", 48, x.danger(0));
            Checks.due("planned", 48, x.danger(1));
            x.sharpen(24);
            Checks.due("sharpened", 0, x.danger(0));
        });
        sentence(25, "IndexOutOfBoundsException of a letter that does not exist", () -> {
            CurvedNames x = Checks.read("arc 9 9 hard 90;name ab;sharp 80;");
            Checks.due("the last", 20, x.danger(1));
            Checks.thrown("2", Checks.INDEX, () -> x.danger(2));
            for (int letter : FAR_OUT) {
                Checks.thrown("" + letter, Checks.INDEX, () -> x.danger(letter));
            }
            Checks.thrown("none", Checks.INDEX, () -> new CurvedNames().danger(0));
        });
    }

    private static void slipsIf() {
        sentence(26, "how many scratches there would come by engraving all planned letters now", () -> {
            Checks.due("no letters", 0, Checks.read("arc 9 9 hard 99;sharp 1;").slipsIf());
            Checks.due("no arcs", 0, Checks.read("name dddddddd;sharp 1;").slipsIf());
            CurvedNames x = Checks.read("arc 9 9 hard 99;name da;sharp 1;");
            Checks.due("both", 5, x.slipsIf());
            x.engrave(0);
            Checks.due("the planned one", 1, x.slipsIf());
            x.engrave(1);
            Checks.due("none is planned", 0, x.slipsIf());
            x.polish(0);
            Checks.due("planned again", 4, x.slipsIf());
        });
        sentence(26, "one after the other", () -> {
            // The second letter has the draws behind the first one's, and a graver that is less sharp by its strokes.
            CurvedNames x = Checks.read("arc 9 9 hard 60;name aa;sharp 48;");
            Checks.due("draws of 38 and 26 do not slip", 0, x.slipsIf());
            CurvedNames y = Checks.read("arc 9 9 hard 61;name aa;sharp 48;");
            Checks.due("26 is below 28", 1, y.slipsIf());
        });
        sentence(26, "(whether there is room for so many or not)", () -> {
            CurvedNames x = Checks.read(MANY);
            Checks.due("80 at once", 80, x.slipsIf());
            x.engraveAll();
            Checks.due("there are 44", 44, x.setting(7));
            Checks.due("36 more", 36, x.slipsIf());
        });
        sentence(26, "nothing changes by asking what would be", () ->
            Twins.only(WhatIfBoundsTest::many, CurvedNames::slipsIf, CurvedNames::leastSharp));
    }

    private static CurvedNames many() {
        CurvedNames x = Checks.read("arc 50 90 hard 99;name dddddddd;name ddd;sharp 1;");
        x.engraveAll();
        return x;
    }

    private static void leastSharp() {
        sentence(27, "the least sharpness, 1 to 99", () -> {
            Checks.due("1", 1, Checks.read("arc 9 9 hard 1;name a;seed 0;").leastSharp());
            Checks.due("2", 2, Checks.read("arc 9 9 hard 2;name a;seed 0;").leastSharp());
            Checks.due("1, with a draw of 2", 1, Checks.read("arc 9 9 hard 2;name a;seed 86;").leastSharp());
            Checks.due("98", 98, Checks.read("arc 9 9 hard 99;name a;seed 86;").leastSharp());
            Checks.due("99", 99, Checks.read("arc 9 9 hard 99;name a;seed 0;").leastSharp());
            Checks.due("1 is asked, not 0", 1, Checks.read("arc 9 9 hard 0;name dddddddd;seed 0;").leastSharp());
        });
        sentence(27, "NONE if there is none such", () -> {
            Checks.due("many strokes", -1, Checks.read(MANY).leastSharp());
            // The second stroke of b is asked with 98: a draw of 0 slips.
            Checks.due("99 is not enough", -1, Checks.read("arc 9 9 hard 99;name b;seed 0;").leastSharp());
        });
        sentence(27, "engraving all planned letters would bring no slip", () -> {
            Checks.due("no letters", 1, Checks.read("arc 9 9 hard 99;seed 0;").leastSharp());
            Checks.due("no arcs", 1, Checks.read("name dddddddd;seed 0;").leastSharp());
            CurvedNames x = Checks.read("arc 9 9 hard 99;name a;seed 0;");
            x.engrave(0);
            Checks.due("none is planned", 1, x.leastSharp());
        });
        sentence(27, "(each asked by itself, with the draws of now; a greater one may bring one)", () -> {
            // The draws are 10 and 48: with 60, the second letter has the first draw and slips; with 58 and 59 none does.
            CurvedNames x = Checks.read("arc 9 9 hard 60;arc 9 9 hard 70;name aa;seed 733;sharp 60;");
            Checks.due("with 60 there is a slip", 1, x.slipsIf());
            Checks.due("with 55 there is none", 55, x.leastSharp());
            Checks.due("the sharpness of now stays", 60, x.setting(5));
            Checks.due("the draws of now stay", 733, x.setting(10));
            x.engraveAll();
            Checks.due("the seed is not asked again", false, x.setting(10) == 733);
        });
        sentence(27, "with the draws of now", () -> {
            CurvedNames x = Checks.read("arc 9 9 hard 60;name aa;sharp 1;");
            Checks.due("draws of 38 and 26", 48, x.leastSharp());
            x.engrave(0);
            // That slip took the draws 38 and 26, the next one is 13: not below 12.
            Checks.due("a draw of 13", 54, x.leastSharp());
        });
    }

    private static void leastGrowth() {
        sentence(28, "the least number, 0 to 99, .. so that no room was crowded", () -> {
            Checks.due("0", 0, Checks.read("arc 20 10;name a;wide a 1;margin 5;").leastGrowth());
            // 50 times the radius, less 500, is 500 at least with 20.
            Checks.due("1", 1, Checks.read("arc 19 10;name a;wide a 1;margin 5;").leastGrowth());
            Checks.due("98", 98, Checks.read("arc 21 20;name a;margin 99;").leastGrowth());
            Checks.due("99", 99, Checks.read("arc 20 20;name a;margin 99;").leastGrowth());
            Checks.due("without letters", 0, Checks.read("arc 10 1;").leastGrowth());
            Checks.due("without letters", 1, Checks.read("arc 9 1;").leastGrowth());
        });
        sentence(28, "NONE if there is none such", () -> {
            Checks.due("100 would be needed", -1, Checks.read("arc 19 20;name a;margin 99;").leastGrowth());
            Checks.due("no arcs", -1, new CurvedNames().leastGrowth());
            Checks.due("no arcs: not without margin", 0, Checks.read("margin 0;").leastGrowth());
            Checks.due("no arcs, but letters", -1, Checks.read("margin 0;name a;").leastGrowth());
            Checks.due("a centre at 0", -1, Checks.read("arc 99 1;margin 0;name dddddddd;name ddd;").leastGrowth());
        });
        sentence(28, "the radii of all arcs would have to be greater (they may be above 99 then)", () -> {
            Checks.due("119", 20, Checks.read("arc 99 20;name a;margin 99;").leastGrowth());
            Checks.due("all of them", 20, Checks.read("arc 99 10;arc 99 10;name a;margin 99;").leastGrowth());
            Checks.due("the narrower one", 39, Checks.read("arc 99 10;arc 80 10;name a;margin 99;").leastGrowth());
            Checks.due("the narrower one", 39, Checks.read("arc 80 10;arc 99 10;name a;margin 99;").leastGrowth());
            CurvedNames full = Checks.read("arc 80 10;".repeat(7) + "arc 99 10;name dddddddd;wide d 1;margin 99;");
            // 8 letters in the middle of 8 arcs: the first room is 50 times the radius, less 500.
            Checks.due("not even 99 of 8 arcs", -1, full.leastGrowth());
            full.setMargin(45);
            Checks.due("20 of 8 arcs", 20, full.leastGrowth());
        });
    }

    private static void mostWidth() {
        sentence(29, "the greatest width, 1 to 99, .. no room would be crowded", () -> {
            // Both rooms are 50 times the radius, less 500 times the width; they are 100 at least.
            Checks.due("1", 1, Checks.read("arc 12 10;name a;").mostWidth(0));
            Checks.due("not yet 2", 1, Checks.read("arc 21 10;name a;").mostWidth(0));
            Checks.due("2", 2, Checks.read("arc 22 10;name a;").mostWidth(0));
            // With 180 degrees they are 900 times the radius, less 500 times the width.
            Checks.due("98", 98, Checks.read("arc 55 180;name a;margin 5;").mostWidth(0));
            Checks.due("97", 97, Checks.read("arc 55 180;name a;margin 6;").mostWidth(0));
            Checks.due("99", 99, Checks.read("arc 56 180;name a;margin 9;").mostWidth(0));
            Checks.due("98", 98, Checks.read("arc 56 180;name a;margin 10;").mostWidth(0));
            Checks.due("a room of 0 without margin", 99, Checks.read("arc 55 180;name a;margin 0;").mostWidth(0));
            Checks.due("99 at most", 99, Checks.read("arc 99 180;name a;").mostWidth(0));
        });
        sentence(29, "NONE if there is none such", () -> {
            Checks.due("1 is too wide", -1, Checks.read("arc 11 10;name a;").mostWidth(0));
            Checks.due("another letter is too wide", -1, Checks.read("arc 20 40;name ab;wide b 99;").mostWidth(0));
            Checks.due("not in the name", -1, Checks.read("arc 11 10;name b;").mostWidth(0));
            Checks.due("no arcs", -1, new CurvedNames().mostWidth(0));
        });
        sentence(29, "of a letter of the alphabet (0 for a; in the name or not)", () -> {
            CurvedNames x = Checks.read("arc 12 10;name z;wide z 1;");
            Checks.due("z", 1, x.mostWidth(25));
            Checks.due("a", 99, x.mostWidth(0));
            Checks.due("no letters", 99, Checks.read("arc 1 10;").mostWidth(0));
            Checks.due("twice in the name", 1, Checks.read("arc 24 10;name aa;").mostWidth(0));
        });
        sentence(29, "IllegalArgumentException if place is not 0 to 25", () -> {
            CurvedNames x = Checks.read("arc 99 99;");
            Checks.due("0", 99, x.mostWidth(0));
            Checks.due("25", 99, x.mostWidth(25));
            Checks.thrown("26", Checks.ILLEGAL, () -> x.mostWidth(26));
            for (int place : FAR_OUT) {
                Checks.thrown("" + place, Checks.ILLEGAL, () -> x.mostWidth(place));
            }
        });
    }

    private static Object tightestOf(String text) {
        CurvedNames x = Checks.read("arc 10 90;name xyz;wide c 5;");
        Checks.put(x, text);
        try {
            return x.tightestIf();
        } catch (RuntimeException e) {
            return e.getClass();
        }
    }

    private static void tightestIf() {
        sentence(30, "a word of 1 to 8 letters a to z alone", () -> {
            Checks.due("1", 2500, tightestOf("a"));
            Checks.due("1", 2500, tightestOf("z"));
            // 8 centres of 112 or 113 tenths between
            Checks.due("8", -2880, tightestOf("abdefghz"));
            Checks.due("0", Checks.ILLEGAL, tightestOf(""));
            Checks.due("9", Checks.ILLEGAL, tightestOf("abdefghij"));
            Checks.due("20", Checks.ILLEGAL, tightestOf("a".repeat(20)));
            Checks.due("500", Checks.ILLEGAL, tightestOf("a".repeat(500)));
            for (int b = 0; b < 256; b++) {
                boolean isLetter = b >= 'a' && b <= 'z';
                Object got = tightestOf("" + (char) b);
                Checks.due("byte " + b, isLetter ? (Object) (b == 'c' ? 2000 : 2500) : Checks.ILLEGAL, got);
            }
        });
        sentence(30, "(nothing else in it, no spaces)", () -> {
            for (String text : new String[] {" a", "a ", "a b", "\na", "a\n", "a;", ";a", "a1", "1a", "aA", "a\u0000", "abcdefgh ", " abcdefg"}) {
                Checks.due(text, Checks.ILLEGAL, tightestOf(text));
            }
        });
        sentence(30, "the parts of the tightest room if this word was the whole name", () -> {
            Checks.due("not behind the name", 250, tightestOf("ab"));
            Checks.due("the widths of now", -250, tightestOf("bc"));
            Checks.due("the same name", -1000, tightestOf("xyz"));
            CurvedNames cut = Checks.read("arc 10 90;");
            Checks.put(cut, "abcdefgh");
            cut.truncate(1);
            Checks.due("a word that was cut", 2500, cut.tightestIf());
            Checks.put(cut, "abcdefgh;");
            cut.truncate(8);
            Checks.due("a word that was cut", -2880, cut.tightestIf());
            CurvedNames wider = Checks.read("arc 10 90;name xyz;");
            wider.setWidth(0, 9);
            Checks.put(wider, "a");
            Checks.due("a width that was set", 0, wider.tightestIf());
            CurvedNames none = new CurvedNames();
            Checks.put(none, "ab");
            Checks.due("no arcs", -4000, none.tightestIf());
            CurvedNames full = Checks.read("arc 10 90;name dddddddd;name dddddddd;name dddd;");
            Checks.put(full, "abcdefgh");
            Checks.due("also if there are 20 letters", -2880, full.tightestIf());
        });
    }

    private static void tightestIfEmpties() {
        sentence(30, "and empties it; the buffer is empty also then", () -> {
            for (String text : new String[] {"a", "abcdefgh", "abcdefghi", "", " ", "A", "a".repeat(500)}) {
                CurvedNames x = new CurvedNames();
                Checks.put(x, text);
                try {
                    x.tightestIf();
                } catch (IllegalArgumentException e) {
                    Checks.due("an error is told by no other call", 0, x.errorCode());
                }
                Checks.thrown("0 bytes", Checks.ILLEGAL, () -> x.truncate(1));
                Checks.due("the first 20", 20, x.feed(0, 0, 0, 0, 0));
            }
        });
        sentence(30, "nothing changes by asking what would be", () -> {
            Twins.refused(Checks.ILLEGAL, WhatIfBoundsTest::emptied, x -> {
                Checks.put(x, "a b");
                return x.tightestIf();
            });
            Twins.only(WhatIfBoundsTest::emptied, x -> {
                Checks.put(x, "zzzzzzzz");
                return x.tightestIf();
            });
        });
    }

    private static CurvedNames emptied() {
        CurvedNames x = Twins.used();
        x.truncate(0);
        return x;
    }

    private static void spare() {
        sentence(31, "the arc by which, if it was not there, the fewest rooms would be crowded", () -> {
            Checks.due("the only one", 0, Checks.read("arc 9 9;name a;").spare());
            Checks.due("the first", 0, Checks.read("arc 1 180;arc 10 90;name a;").spare());
            Checks.due("the last", 1, Checks.read("arc 10 90;arc 1 180;name a;").spare());
            Checks.due("the one in between", 1, Checks.read("arc 10 90;arc 1 180;arc 10 90;name a;").spare());
            Checks.due("the 8th", 7, Checks.read("arc 10 90;".repeat(7) + "arc 1 180;name a;margin 0;wide a 60;").spare());
        });
        sentence(31, "the lowest one of several", () -> {
            Checks.due("no room is crowded", 0, Checks.read("arc 10 90;arc 10 90;name a;").spare());
            Checks.due("all rooms are crowded", 0, Checks.read("arc 1 1;arc 1 1;name dddddddd;name dddddddd;name dddd;").spare());
            Checks.due("1 and 2", 1, Checks.read("arc 10 90;arc 1 90;arc 1 90;name a;").spare());
            Checks.due("like arcs", 0, Checks.read("arc 9 9;".repeat(8)).spare());
        });
        sentence(31, "NONE without arcs", () -> {
            Checks.due("no letters", -1, new CurvedNames().spare());
            Checks.due("letters", -1, Checks.read("name a;margin 0;").spare());
        });
    }
}
