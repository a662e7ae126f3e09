/** Promises 28 to 31: how large the curve must be, what would fit, which arc is spare. */
public final class WhatIfTest {
    public static void main(String[] args) {
        promise28();
        promise29();
        promise30();
        promise31();
        Checks.end();
    }

    private static void promise28() {
        CurvedNames x = Checks.read("arc 10 90;name ab;");
        Checks.due("none needed", 0, x.leastGrowth());
        x.setMargin(3);
        Checks.due("one", 1, x.leastGrowth());
        x.setMargin(99);
        // 225 times the radius, less 2000, at least 9900
        Checks.due("more", 43, x.leastGrowth());
        Checks.due("nothing changes", 10, x.arc(0, 0));
        Checks.due("a radius above 99", 20, Checks.read("arc 99 20;name a;margin 99;").leastGrowth());
        Checks.due("the most", 99, Checks.read("arc 20 20;name a;margin 99;").leastGrowth());
        Checks.due("too much", -1, Checks.read("arc 19 20;name a;margin 99;").leastGrowth());
        Checks.due("all arcs grow", 20, Checks.read("arc 99 10;arc 99 10;name a;margin 99;").leastGrowth());
        Checks.due("no arcs", -1, new CurvedNames().leastGrowth());
        Checks.due("no arcs, no margin", 0, Checks.read("margin 0;").leastGrowth());
        Checks.due("no arcs, letters", -1, Checks.read("margin 0;name a;").leastGrowth());
    }

    private static void promise29() {
        CurvedNames x = Checks.read("arc 10 90;name ab;");
        Checks.due("a", 4, x.mostWidth(0));
        Checks.due("b", 4, x.mostWidth(1));
        Checks.due("not in the name", 99, x.mostWidth(25));
        x.setWidth(0, 2);
        // Room 2 bounds it: 2250 less half of it, at least 100.
        Checks.due("b beside a narrow a", 4, x.mostWidth(1));
        x.setWidth(0, 4);
        x.setMargin(3);
        Checks.due("another room is crowded", -1, x.mostWidth(0));
        Checks.due("not in the name", -1, x.mostWidth(2));
        x.setMargin(0);
        Checks.due("no margin", 4, x.mostWidth(0));
        Checks.due("nothing changes", 4000, x.letter(0, 1));
        // Room 1: 4500 less 500 times both widths; room 0 bounds it at 4 already.
        Checks.due("both letters", 4, Checks.read("arc 10 90;name aa;").mostWidth(0));
        Checks.due("1", 1, Checks.read("arc 3 45;name a;").mostWidth(0));
        Checks.due("not even 1", -1, Checks.read("arc 2 45;name a;").mostWidth(0));
        Checks.due("99 at most", 99, Checks.read("arc 99 180;name a;").mostWidth(0));
        Checks.due("no letters", 99, Checks.read("arc 1 9;margin 0;").mostWidth(0));
        Checks.due("no arcs", -1, new CurvedNames().mostWidth(0));
        Checks.thrown("below", Checks.ILLEGAL, () -> x.mostWidth(-1));
        Checks.thrown("above", Checks.ILLEGAL, () -> x.mostWidth(26));
    }

    private static void word(CurvedNames x, String text, int want) {
        Checks.put(x, text);
        Checks.due(text, want, x.tightestIf());
        Checks.thrown(text + " is gone", Checks.ILLEGAL, () -> x.truncate(1));
    }

    private static void noWord(CurvedNames x, String text) {
        Checks.put(x, text);
        Checks.thrown("no word: " + text, Checks.ILLEGAL, x::tightestIf);
        Checks.thrown("gone: " + text, Checks.ILLEGAL, () -> x.truncate(1));
    }

    private static void promise30() {
        CurvedNames x = Checks.read("arc 10 90;name xyz;wide c 5;");
        x.engrave(0);
        word(x, "ab", 250);
        word(x, "h", 2500);
        word(x, "cb", -250);
        word(x, "arc", -1500);
        // 8 letters: centres 112 apart at least, so 1120 parts less 4000
        word(x, "abdefgha", -2880);
        for (String text : new String[] {"", "abcdefghi", "a b", " a", "a ", "a;", "A", "a1", "1", "\n", "a\n", "\u00e9"}) {
            noWord(x, text);
        }
        Checks.due("the name stays", 3, x.setting(1));
        Checks.due("the letters stay", 23, x.letter(0, 0));
        Checks.due("engraved still", 1, x.setting(8));
        Checks.due("no change", 1, x.setting(13));
        word(new CurvedNames(), "ab", -4000);
    }

    private static void promise31() {
        CurvedNames x = Checks.read("arc 10 90; arc 20 45 right hard 7; arc 5 45; name aeh;");
        Checks.due("the last", 2, x.spare());
        Checks.due("nothing changes", 3, x.setting(0));
        Checks.due("nothing changes", 20250, x.setting(4));
        x.setMargin(99);
        Checks.due("the lowest of like ones", 0, x.spare());
        Checks.due("in between", 1, Checks.read("arc 10 90; arc 1 180; arc 10 90; name a;").spare());
        Checks.due("only one", 0, Checks.read("arc 9 9;name a;").spare());
        Checks.due("like ones", 0, Checks.read("arc 9 9;arc 9 9;").spare());
        Checks.due("no arcs", -1, Checks.read("name a;").spare());
        Checks.due("21 crowded rooms", 0,
            Checks.read("arc 9 9;arc 9 9;name abcdefgh;name abcdefgh;name abcd;").spare());
        Checks.due("of 8 arcs", 7, Checks.read("arc 10 90;".repeat(7) + "arc 1 180;name a;margin 0;wide a 60;").spare());
    }
}
