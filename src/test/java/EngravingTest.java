/**
 * Promises 11, 25 to 27 and 32 to 36: strokes, slips, scratches, spoiled letters, mends.
 *
 * <p>With the seed 1 the draws are of 16838, 38526, 10113, 50283, 63819, 38395, 55778, 40187, 48980, 4086, 2749, 12767.
 */
public final class EngravingTest {
    /** Each d has 4 strokes; the first slips three times and the second once. */
    private static final String TWO = "arc 50 90 hard 90; name dd; sharp 60;";
    /** Each stroke slips. */
    private static final String MANY = "arc 50 90 hard 99; name dddddddd; name dddddddd; name dddd; sharp 1;";

    public static void main(String[] args) {
        promise11();
        promise25();
        promise26();
        promise27();
        promise32();
        promise33();
        promise34();
        promise35();
        promise36();
        bluntness();
        Checks.end();
    }

    private static String scratches(CurvedNames x) {
        StringBuilder text = new StringBuilder();
        for (int i = 0; i < x.setting(7); i++) {
            text.append(x.scratch(i, 0)).append(':').append(x.scratch(i, 1)).append(':').append(x.scratch(i, 2)).append(' ');
        }
        return text.toString();
    }

    private static void promise11() {
        CurvedNames x = Checks.read(TWO);
        Checks.thrown("none yet", Checks.INDEX, () -> x.scratch(0, 0));
        x.engraveAll();
        Checks.due("scratches", "0:700:-1 0:400:-1 0:1600:-1 1:800:-1 ", scratches(x));
        x.setWidth(3, 21);
        Checks.due("room", 1500, x.room(1));
        Checks.due("one spoils", "0:700:-1 0:400:-1 0:1600:1 1:800:-1 ", scratches(x));
        x.setRadius(0, 6);
        x.setWidth(3, 2);
        Checks.due("room", 700, x.room(1));
        Checks.due("not farther than the room", "0:700:-1 0:400:-1 0:1600:1 1:800:-1 ", scratches(x));
        Checks.due("spoiled", 1, x.setting(9));
        Checks.due("spoiled", 1, x.letter(1, 9));
        Checks.due("not its own", 0, x.letter(0, 9));
        x.polish(1);
        Checks.due("a planned one", "0:700:-1 0:400:-1 0:1600:1 ", scratches(x));
        Checks.due("spoiled still", 1, x.letter(1, 9));
        x.setWidth(3, 1);
        Checks.due("spoiled no longer", 0, x.letter(1, 9));
        x.setWidth(3, 99);
        Checks.due("spoiled again", 1, x.letter(1, 9));
        Checks.due("a room below 0", "0:700:1 0:400:1 0:1600:1 ", scratches(x));
        Checks.due("spoiled once", 1, x.setting(9));
        x.setRadius(0, 99);
        x.setWidth(3, 1);
        Checks.due("no longer", 0, x.setting(9));
        x.setRadius(0, 1);
        Checks.due("asked anew", 1, x.scratch(0, 2));
        CurvedNames first = Checks.read("arc 1 9 hard 90; name aa; sharp 60;");
        first.engrave(0);
        Checks.due("by the first of all", 1, first.letter(1, 9));
        Checks.thrown("no such number", Checks.ILLEGAL, () -> x.scratch(0, 3));
        Checks.thrown("no such number", Checks.ILLEGAL, () -> x.scratch(0, -1));
        Checks.thrown("no such scratch", Checks.INDEX, () -> x.scratch(3, 0));
        Checks.thrown("no such scratch", Checks.INDEX, () -> x.scratch(-1, 0));
        Checks.thrown("the first of both", Checks.INDEX, () -> x.scratch(44, 9));
    }

    private static void promise25() {
        CurvedNames x = Checks.read("arc 9 90 hard 90;arc 9 90 hard 70;name ab;sharp 60;");
        Checks.due("danger", 60, x.danger(0));
        Checks.due("on the other arc", 20, x.danger(1));
        x.engrave(1);
        Checks.due("less sharp", 24, x.danger(1));
        x.sharpen(28);
        Checks.due("86", 8, x.danger(0));
        Checks.due("0 at least", 0, x.danger(1));
        x.sharpen(4);
        Checks.due("as sharp as hard", 0, x.danger(0));
        Checks.due("100 at most", 100, Checks.read("arc 9 90 hard 90;name a;sharp 39;").danger(0));
        Checks.due("exactly 100", 100, Checks.read("arc 9 90 hard 90;name a;sharp 40;").danger(0));
        Checks.due("98", 98, Checks.read("arc 9 90 hard 90;name a;sharp 41;").danger(0));
        Checks.thrown("no such letter", Checks.INDEX, () -> x.danger(2));
        Checks.thrown("no such letter", Checks.INDEX, () -> x.danger(-1));
    }

    private static void promise26() {
        CurvedNames x = Checks.read(TWO);
        Checks.due("all", 4, x.slipsIf());
        Checks.due("nothing changes", 1, x.setting(10));
        Checks.due("nothing changes", 60, x.setting(5));
        Checks.due("nothing changes", 0, x.setting(12));
        x.engrave(0);
        Checks.due("those that are left", 1, x.slipsIf());
        x.engrave(1);
        Checks.due("none is left", 0, x.slipsIf());
        CurvedNames many = Checks.read(MANY);
        Checks.due("more than there is room for", 80, many.slipsIf());
        many.engraveAll();
        Checks.due("more than there is room for", 36, many.slipsIf());
        String name = "name dddddddd; name dddddddd; name dddd; sharp 1; seed ";
        for (int seed = 0; seed < 20; seed++) {
            Checks.due("no arcs, seed " + seed, 0, Checks.read(name + seed + ";").slipsIf());
        }
    }

    private static void promise27() {
        // The first draw is 38: no slip if 38 is not below twice the difference to 60.
        CurvedNames x = Checks.read("arc 50 90 hard 60;name a;sharp 5;");
        Checks.due("least", 41, x.leastSharp());
        Checks.due("nothing changes", 5, x.setting(5));
        Checks.due("nothing changes", 1, x.setting(10));
        // 38 and, from the same draws without a slip between, 26: the second is asked with one less.
        Checks.due("two strokes", 48, Checks.read("arc 50 90 hard 60;name b;").leastSharp());
        Checks.due("none can", -1, Checks.read(MANY).leastSharp());
        // The seed 0 draws 0, which slips unless there is no draw; the seed 86 draws 2.
        Checks.due("only 99 can", 99, Checks.read("arc 50 90 hard 99;name a;seed 0;").leastSharp());
        Checks.due("98 can", 98, Checks.read("arc 50 90 hard 99;name a;seed 86;").leastSharp());
        Checks.due("1 can", 1, Checks.read("arc 50 90 hard 1;name a;seed 0;").leastSharp());
        x.engraveAll();
        Checks.due("none planned", 1, x.leastSharp());
        Checks.due("no arcs", 1, Checks.read("name dddd;").leastSharp());
    }

    private static void promise32() {
        CurvedNames x = Checks.read(TWO);
        Checks.due("came", 3, x.engrave(0));
        int[][] due = {{5, 56}, {7, 3}, {8, 1}, {10, -639453696}, {11, 3}, {12, 4}, {13, 1}};
        for (int[] row : due) {
            Checks.due("setting " + row[0], row[1], x.setting(row[0]));
        }
        Checks.due("engraved", 1, x.letter(0, 8));
        Checks.due("planned", 0, x.letter(1, 8));
        Checks.due("its scratches", 3, x.letter(0, 12));
        Checks.thrown("engraved already", Checks.STATE, () -> x.engrave(0));
        Checks.thrown("no such letter", Checks.INDEX, () -> x.engrave(2));
        Checks.thrown("no such letter", Checks.INDEX, () -> x.engrave(-1));
        Checks.due("nothing changed", 1, x.setting(13));
        Checks.due("came", 1, x.engrave(1));
        Checks.due("x", 836760821, x.setting(10));
        Checks.due("sharp", 52, x.setting(5));
        CurvedNames noArcs = Checks.read("name a;");
        Checks.thrown("no arcs", Checks.STATE, () -> noArcs.engrave(0));
        Checks.thrown("no arcs and no such letter", Checks.INDEX, () -> noArcs.engrave(1));
        CurvedNames many = Checks.read(MANY);
        for (int letter = 0; letter < 11; letter++) {
            Checks.due("each stroke slips", 4, many.engrave(19 - letter));
        }
        Checks.due("44 scratches", 44, many.setting(7));
        Checks.thrown("too many scratches", Checks.STATE, () -> many.engrave(0));
        many.mend(0);
        many.mend(0);
        many.mend(0);
        Checks.thrown("41 scratches", Checks.STATE, () -> many.engrave(0));
        many.mend(1);
        Checks.due("40 scratches", 4, many.engrave(0));
        // A graver as sharp as the plate is hard draws nothing.
        CurvedNames sharp = Checks.read("arc 9 9 hard 50;name a;sharp 50;");
        sharp.engrave(0);
        Checks.due("no draw", 1, sharp.setting(10));
        Checks.due("less sharp", 49, sharp.setting(5));
        // The draw 38 is not below 38.
        CurvedNames near = Checks.read("arc 9 9 hard 69;name a;sharp 50;");
        Checks.due("not below", 0, near.engrave(0));
        Checks.due("one draw", 1103527590, near.setting(10));
        CurvedNames below = Checks.read("arc 9 9 hard 70;name a;sharp 50;");
        Checks.due("below", 1, below.engrave(0));
        Checks.due("two draws", -1770082073, below.setting(10));
    }

    private static void bluntness() {
        CurvedNames x = Checks.read("arc 9 9 hard 0;name dd;sharp 5;");
        x.engraveAll();
        Checks.due("not below 0", 0, x.setting(5));
        Checks.due("strokes", 8, x.setting(12));
        Checks.due("slips", 0, x.setting(11));
    }

    private static void promise33() {
        CurvedNames x = Checks.read(TWO);
        x.engrave(1);
        Checks.due("those that are planned", 1, x.engraveAll());
        Checks.thrown("none planned", Checks.STATE, x::engraveAll);
        Checks.thrown("no letters", Checks.STATE, () -> Checks.read("arc 9 9;").engraveAll());
        Checks.thrown("no arcs", Checks.STATE, () -> Checks.read("name a;").engraveAll());
        CurvedNames order = Checks.read(TWO);
        Checks.due("both", 2, order.engraveAll());
        Checks.due("by number", "0:700:-1 0:400:-1 0:1600:-1 1:800:-1 ", scratches(order));
        Checks.due("one change", 1, order.setting(13));
        CurvedNames many = Checks.read(MANY);
        Checks.due("as long as 40 at most", 11, many.engraveAll());
        Checks.due("scratches", 44, many.setting(7));
        Checks.due("planned still", 0, many.letter(11, 8));
        Checks.thrown("more than 40", Checks.STATE, many::engraveAll);
        Checks.due("nothing changed", 1, many.setting(13));
        Checks.due("all in a script ends there too", 1, Checks.run(many, "mend 0;all;"));
    }

    private static void promise34() {
        CurvedNames x = Checks.read(MANY);
        x.engraveAll();
        Checks.due("left", 43, x.mend(5));
        Checks.due("mends", 1, x.letter(1, 11));
        Checks.due("scratches of it", 3, x.letter(1, 12));
        Checks.due("others", 4, x.letter(0, 12));
        int reach = x.scratch(3, 1);
        Checks.due("left", 42, x.mend(2));
        Checks.due("numbered anew", reach, x.scratch(2, 1));
        Checks.due("slips stay", 44, x.setting(11));
        x.mend(0);
        x.mend(0);
        Checks.due("letter of scratch 0", 0, x.scratch(0, 0));
        Checks.due("mends", 3, x.letter(0, 11));
        Checks.thrown("3 mends", Checks.STATE, () -> x.mend(0));
        Checks.thrown("no such scratch", Checks.INDEX, () -> x.mend(40));
        Checks.thrown("no such scratch", Checks.INDEX, () -> x.mend(-1));
        Checks.due("another letter's", 39, x.mend(1));
        Checks.due("engraved still", 1, x.letter(0, 8));
        Checks.thrown("not polished either", Checks.STATE, () -> x.polish(0));
    }

    private static void promise35() {
        CurvedNames x = Checks.read("arc 50 90 hard 99; name ddd; sharp 1;");
        Checks.thrown("planned", Checks.STATE, () -> x.polish(0));
        x.engraveAll();
        String before = scratches(x);
        x.mend(5);
        Checks.due("went", 3, x.polish(1));
        Checks.due("planned again", 0, x.letter(1, 8));
        Checks.due("mends", 2, x.letter(1, 11));
        Checks.due("scratches of it", 0, x.letter(1, 12));
        String[] rows = before.split(" ");
        Checks.due("the others stay in order",
            String.join(" ", rows[0], rows[1], rows[2], rows[3], rows[8], rows[9], rows[10], rows[11]) + " ", scratches(x));
        Checks.thrown("not engraved", Checks.STATE, () -> x.polish(1));
        Checks.due("again", 4, x.engrave(1));
        Checks.due("the new ones are last", 1, x.scratch(11, 0));
        Checks.due("went", 4, x.polish(1));
        Checks.due("mends", 3, x.letter(1, 11));
        x.engrave(1);
        Checks.thrown("3 mends", Checks.STATE, () -> x.polish(1));
        Checks.thrown("no such letter", Checks.INDEX, () -> x.polish(3));
        Checks.thrown("no such letter", Checks.INDEX, () -> x.polish(-1));
        Checks.due("strokes count on", 20, x.setting(12));
        Checks.due("without scratches", 0, withoutScratches().polish(0));
    }

    private static CurvedNames withoutScratches() {
        CurvedNames x = Checks.read("arc 9 9 hard 0;name a;");
        x.engrave(0);
        return x;
    }

    private static void promise36() {
        CurvedNames x = new CurvedNames();
        Checks.due("sharper", 51, x.sharpen(1));
        Checks.due("sharper", 98, x.sharpen(47));
        Checks.due("99", 99, x.sharpen(1));
        Checks.due("at most 99", 99, x.sharpen(99));
        Checks.due("each can be undone", 4, x.setting(13));
        Checks.thrown("0", Checks.ILLEGAL, () -> x.sharpen(0));
        Checks.thrown("below", Checks.ILLEGAL, () -> x.sharpen(Integer.MIN_VALUE));
        Checks.thrown("above", Checks.ILLEGAL, () -> x.sharpen(100));
        Checks.due("nothing changed", 4, x.setting(13));
    }
}
