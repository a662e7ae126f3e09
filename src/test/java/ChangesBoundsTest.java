/** The sentences of promises 32 to 39, the changes, that name a boundary case. */
public final class ChangesBoundsTest {
    private static final int[] FAR_OUT = {Integer.MIN_VALUE, -2, -1, 1000000000, Integer.MAX_VALUE};
    /** Each stroke slips: 4 of each letter. */
    private static final String MANY = "arc 50 90 hard 99;name dddddddd;name dddddddd;name dddd;sharp 1;";
    /** The same, with a letter of one slip ahead of ten of 4. */
    private static final String ONE_AND_MANY = "arc 50 90 hard 99;name addddddd;name ddd;sharp 1;";
    private static final String HARD = "arc 50 90 hard 99;name dab;sharp 1;";

    private ChangesBoundsTest() {
    }

    public static void main(String[] args) {
        engrave();
        engraveRefused();
        engraveAll();
        engraveAllRefused();
        mend();
        mendRefused();
        polish();
        polishLeavesOthers();
        polishRefused();
        sharpen();
        setMargin();
        setRadius();
        setWidth();
        refusedAreNoChanges();
        Checks.end();
    }

    private static void sentence(int promise, String words, Runnable test) {
        Checks.sentence("Promise " + promise, words, test);
    }

    /** A plate of ten letters engraved, and 40 scratches of them; an 11th and 12th letter are planned. */
    private static CurvedNames forty() {
        CurvedNames x = Checks.read("arc 50 90 hard 99;name dddddddd;name dddd;sharp 1;");
        Checks.run(x, "engrave 0;engrave 1;engrave 2;engrave 3;engrave 4;engrave 5;engrave 6;engrave 7;engrave 8;engrave 9;");
        return x;
    }

    /** The same with one scratch more. */
    private static CurvedNames fortyOne() {
        CurvedNames x = Checks.read(ONE_AND_MANY);
        x.engraveAll();
        return x;
    }

    private static CurvedNames hard() {
        return Checks.read(HARD);
    }

    private static CurvedNames engraved() {
        CurvedNames x = hard();
        x.engrave(0);
        return x;
    }

    private static CurvedNames withoutArcs() {
        return Checks.read("name ab;sharp 3;");
    }

    private static void engrave() {
        sentence(32, "Engraves a letter. @return the scratches that came by it", () -> {
            CurvedNames x = hard();
            Checks.due("4 at most", 4, x.engrave(0));
            Checks.due("engraved", 1, x.letter(0, 8));
            Checks.due("the next one is planned", 0, x.letter(1, 8));
            Checks.due("not those of others", 1, x.engrave(1));
            Checks.due("the last letter", 2, x.engrave(2));
            CurvedNames soft = Checks.read("arc 50 90 hard 0;name d;");
            Checks.due("0 at least", 0, soft.engrave(0));
            Checks.due("engraved", 1, soft.letter(0, 8));
        });
        sentence(32, "a letter that was polished away is engraved again", () -> {
            CurvedNames x = engraved();
            x.polish(0);
            Checks.due("again", 4, x.engrave(0));
            Checks.due("engraved", 1, x.letter(0, 8));
        });
        sentence(32, "or there are more than 40 scratches", () -> {
            CurvedNames x = forty();
            Checks.due("40 are not more", 40, x.setting(7));
            Checks.due("it is engraved as a whole", 4, x.engrave(10));
            Checks.due("44", 44, x.setting(7));
            Checks.thrown("44 are more", Checks.STATE, () -> x.engrave(11));
            x.mend(0);
            x.mend(4);
            x.mend(8);
            Checks.thrown("41 are more", Checks.STATE, () -> x.engrave(11));
            x.mend(12);
            Checks.due("40 are not", 4, x.engrave(11));
        });
    }

    private static void engraveRefused() {
        sentence(32, "IndexOutOfBoundsException of a letter that does not exist", () -> {
            Twins.refused(Checks.INDEX, ChangesBoundsTest::hard, x -> x.engrave(3), x -> x.engrave(-1));
            Twins.refused(Checks.INDEX, CurvedNames::new, x -> x.engrave(0));
            CurvedNames x = hard();
            for (int letter : FAR_OUT) {
                Checks.thrown("" + letter, Checks.INDEX, () -> x.engrave(letter));
            }
            Checks.thrown("no arcs, too", Checks.INDEX, () -> withoutArcs().engrave(2));
            Checks.thrown("more than 40 scratches, too", Checks.INDEX, () -> fortyOne().engrave(11));
        });
        sentence(32, "IllegalStateException if it is engraved already", () ->
            Twins.refused(Checks.STATE, ChangesBoundsTest::engraved, x -> x.engrave(0), x -> x.engrave(0)));
        sentence(32, "IllegalStateException if there are no arcs", () ->
            Twins.refused(Checks.STATE, ChangesBoundsTest::withoutArcs, x -> x.engrave(0), x -> x.engrave(1)));
        sentence(32, "IllegalStateException if there are more than 40 scratches", () -> {
            Checks.due("41", 41, fortyOne().setting(7));
            CurvedNames planned = fortyOne();
            planned.polish(0);
            Checks.due("the 40 of others", 40, planned.setting(7));
            Checks.due("40 are not more", 1, planned.engrave(0));
            Twins.refused(Checks.STATE, ChangesBoundsTest::fortyFour, x -> x.engrave(11));
        });
    }

    /** 44 scratches, and a letter that is planned. */
    private static CurvedNames fortyFour() {
        CurvedNames x = forty();
        x.engrave(10);
        return x;
    }

    private static void engraveAll() {
        sentence(33, "Engraves all planned letters. @return how many were engraved", () -> {
            CurvedNames x = hard();
            Checks.due("all", 3, x.engraveAll());
            x.polish(1);
            Checks.due("the planned one", 1, x.engraveAll());
            Checks.due("its scratch is the last", 1, x.scratch(6, 0));
            CurvedNames soft = Checks.read("arc 50 90 hard 0;name dddddddd;name dddddddd;name dddd;");
            Checks.due("20", 20, soft.engraveAll());
            Checks.due("one of one", 1, Checks.read("arc 9 9;name a;").engraveAll());
        });
        sentence(33, "one after the other, by number", () -> {
            CurvedNames x = hard();
            x.engraveAll();
            int[] due = {0, 0, 0, 0, 1, 2, 2};
            for (int i = 0; i < 7; i++) {
                Checks.due("scratch " + i, due[i], x.scratch(i, 0));
            }
        });
        sentence(33, "as long as there are 40 scratches at most", () -> {
            CurvedNames many = Checks.read(MANY);
            Checks.due("the 11th begins with 40", 11, many.engraveAll());
            Checks.due("44", 44, many.setting(7));
            Checks.due("the 12th is planned", 0, many.letter(11, 8));
            CurvedNames more = Checks.read("arc 50 90 hard 99;name addddddd;name dddddddd;sharp 1;");
            Checks.due("the 12th would begin with 41", 11, more.engraveAll());
            Checks.due("41", 41, more.setting(7));
            CurvedNames at = forty();
            Checks.due("from 40 on", 1, at.engraveAll());
            CurvedNames last = Checks.read("arc 50 90 hard 99;arc 50 90 hard 0;name dddddddd;name dddddddd;name dddd;sharp 1;");
            Checks.due("those without scratches go on", 20, last.engraveAll());
            Checks.due("40", 40, last.setting(7));
        });
    }

    private static void engraveAllRefused() {
        sentence(33, "IllegalStateException if none is planned", () -> {
            Twins.refused(Checks.STATE, () -> Checks.read("arc 9 9;"), CurvedNames::engraveAll);
            Twins.refused(Checks.STATE, () -> {
                CurvedNames x = hard();
                x.engraveAll();
                return x;
            }, CurvedNames::engraveAll, CurvedNames::engraveAll);
        });
        sentence(33, "IllegalStateException if there are no arcs", () -> {
            Twins.refused(Checks.STATE, ChangesBoundsTest::withoutArcs, CurvedNames::engraveAll);
            Twins.refused(Checks.STATE, CurvedNames::new, CurvedNames::engraveAll);
        });
        sentence(33, "IllegalStateException if there are more than 40 scratches", () -> {
            Twins.refused(Checks.STATE, ChangesBoundsTest::fortyFour, CurvedNames::engraveAll);
            CurvedNames x = fortyFour();
            x.mend(0);
            x.mend(4);
            x.mend(8);
            Checks.thrown("41", Checks.STATE, x::engraveAll);
            x.mend(12);
            Checks.due("40", 1, x.engraveAll());
        });
    }

    private static void mend() {
        sentence(34, "it goes, and its letter has one mend more. @return the scratches that are left", () -> {
            CurvedNames x = hard();
            x.engraveAll();
            Checks.due("the last one", 6, x.mend(6));
            Checks.due("its letter", 1, x.letter(2, 11));
            Checks.due("its letter", 1, x.letter(2, 12));
            Checks.due("the first one", 5, x.mend(0));
            Checks.due("its letter", 1, x.letter(0, 11));
            Checks.due("not another one", 0, x.letter(1, 11));
            CurvedNames only = Checks.read("arc 50 90 hard 99;name a;sharp 1;");
            only.engrave(0);
            Checks.due("none is left", 0, only.mend(0));
            Checks.due("it is engraved still", 1, only.letter(0, 8));
            Checks.thrown("none to mend", Checks.INDEX, () -> only.mend(0));
        });
        sentence(34, "a scratch that is mended spoils no letter", () -> {
            CurvedNames x = Checks.read("arc 1 9 hard 99;name aa;sharp 1;");
            x.engrave(0);
            Checks.due("spoiled", 1, x.setting(9));
            x.mend(0);
            Checks.due("no longer", 0, x.setting(9));
        });
    }

    private static void mendRefused() {
        sentence(34, "IllegalStateException if its letter has 3 mends", () -> {
            CurvedNames x = engraved();
            Checks.due("with 0", 3, x.mend(0));
            Checks.due("with 1", 2, x.mend(0));
            Checks.due("with 2", 1, x.mend(0));
            Checks.thrown("with 3", Checks.STATE, () -> x.mend(0));
            x.engrave(1);
            Checks.due("of another letter", 1, x.mend(1));
            Twins.refused(Checks.STATE, () -> mended(3), y -> y.mend(0), y -> y.mend(0));
        });
        sentence(34, "a mend by polish() counts as well", () -> {
            CurvedNames x = mended(2);
            x.polish(0);
            x.engrave(0);
            Checks.thrown("with 3", Checks.STATE, () -> x.mend(0));
        });
        sentence(34, "IndexOutOfBoundsException of a scratch that does not exist", () -> {
            Twins.refused(Checks.INDEX, ChangesBoundsTest::engraved, x -> x.mend(4), x -> x.mend(-1), x -> x.mend(44));
            Twins.refused(Checks.INDEX, ChangesBoundsTest::hard, x -> x.mend(0));
            CurvedNames x = engraved();
            for (int scratch : FAR_OUT) {
                Checks.thrown("" + scratch, Checks.INDEX, () -> x.mend(scratch));
            }
            CurvedNames full = fortyFour();
            Checks.thrown("44", Checks.INDEX, () -> full.mend(44));
            Checks.due("43", 43, full.mend(43));
        });
    }

    /** Letter 0 has 4 scratches less its mends. */
    private static CurvedNames mended(int mends) {
        CurvedNames x = engraved();
        for (int i = 0; i < mends; i++) {
            x.mend(0);
        }
        return x;
    }

    private static void polish() {
        sentence(35, "it is planned then, its scratches go, and it has one mend more. @return how many scratches went", () -> {
            CurvedNames x = hard();
            x.engraveAll();
            Checks.due("of the letter in between", 1, x.polish(1));
            Checks.due("planned", 0, x.letter(1, 8));
            Checks.due("its mends", 1, x.letter(1, 11));
            Checks.due("its scratches", 0, x.letter(1, 12));
            Checks.due("those of others stay", 6, x.setting(7));
            Checks.due("of the last letter", 2, x.polish(2));
            Checks.due("of the first letter", 4, x.polish(0));
            Checks.due("none is left", 0, x.setting(7));
            CurvedNames soft = Checks.read("arc 50 90 hard 0;name d;");
            soft.engrave(0);
            Checks.due("none went", 0, soft.polish(0));
            Checks.due("a mend all the same", 1, soft.letter(0, 11));
            Checks.due("what was mended went before", 2, mended(2).polish(0));
        });
    }

    private static void polishLeavesOthers() {
        sentence(35, "its scratches go (those of other letters stay, and are numbered anew)", () -> {
            CurvedNames x = hard();
            x.engraveAll();
            int[] reaches = new int[7];
            for (int i = 0; i < 7; i++) {
                reaches[i] = x.scratch(i, 1);
            }
            x.polish(1);
            int[] due = {0, 1, 2, 3, 5, 6};
            for (int i = 0; i < 6; i++) {
                Checks.due("letter of " + i, i < 4 ? 0 : 2, x.scratch(i, 0));
                Checks.due("reach of " + i, reaches[due[i]], x.scratch(i, 1));
            }
            x.polish(0);
            Checks.due("the first", reaches[5], x.scratch(0, 1));
            Checks.due("the last", reaches[6], x.scratch(1, 1));
            Checks.thrown("no other", Checks.INDEX, () -> x.scratch(2, 0));
            Checks.due("four are different", true, reaches[0] != reaches[5] && reaches[1] != reaches[6]);
        });
    }

    private static void polishRefused() {
        sentence(35, "IllegalStateException if it is not engraved", () -> {
            Twins.refused(Checks.STATE, ChangesBoundsTest::engraved, x -> x.polish(1), x -> x.polish(2));
            CurvedNames x = engraved();
            x.polish(0);
            Checks.thrown("polished already", Checks.STATE, () -> x.polish(0));
            Checks.due("no mend more", 1, x.letter(0, 11));
            Checks.thrown("no arcs", Checks.STATE, () -> withoutArcs().polish(0));
        });
        sentence(35, "IllegalStateException if it has 3 mends", () -> {
            Checks.due("with 2", 2, mended(2).polish(0));
            Twins.refused(Checks.STATE, () -> mended(3), x -> x.polish(0));
            CurvedNames x = Checks.read("arc 50 90 hard 0;name a;");
            for (int mends = 1; mends <= 3; mends++) {
                x.engrave(0);
                x.polish(0);
                Checks.due("mends", mends, x.letter(0, 11));
            }
            x.engrave(0);
            Checks.thrown("3 by polishing", Checks.STATE, () -> x.polish(0));
            Checks.due("engraved still", 1, x.letter(0, 8));
        });
        sentence(35, "IndexOutOfBoundsException of a letter that does not exist", () -> {
            Twins.refused(Checks.INDEX, ChangesBoundsTest::engraved, x -> x.polish(3), x -> x.polish(-1));
            Twins.refused(Checks.INDEX, CurvedNames::new, x -> x.polish(0));
            CurvedNames x = engraved();
            for (int letter : FAR_OUT) {
                Checks.thrown("" + letter, Checks.INDEX, () -> x.polish(letter));
            }
        });
    }

    private static void sharpen() {
        sentence(36, "by 1 to 99; IllegalArgumentException if by is out of range", () -> {
            Checks.due("1", 51, new CurvedNames().sharpen(1));
            Checks.due("99", 99, new CurvedNames().sharpen(99));
            Twins.refused(Checks.ILLEGAL, Twins::used, x -> x.sharpen(0), x -> x.sharpen(100), x -> x.sharpen(-1));
            CurvedNames x = new CurvedNames();
            for (int by : FAR_OUT) {
                Checks.thrown("" + by, Checks.ILLEGAL, () -> x.sharpen(by));
            }
            Checks.due("as sharp as before", 50, x.setting(5));
        });
        sentence(36, "how sharp it is then, at most 99", () -> {
            Checks.due("98", 98, new CurvedNames().sharpen(48));
            Checks.due("99", 99, new CurvedNames().sharpen(49));
            Checks.due("100 are 99", 99, new CurvedNames().sharpen(50));
            CurvedNames x = Checks.read("sharp 99;");
            Checks.due("99 already", 99, x.sharpen(1));
            Checks.due("it is a change", 1, x.setting(13));
            Checks.due("that is so", 99, x.setting(5));
            CurvedNames blunt = Checks.read("arc 9 9 hard 0;name a;sharp 1;");
            blunt.engrave(0);
            Checks.due("from 0", 99, blunt.sharpen(99));
        });
    }

    private static void setMargin() {
        sentence(37, "0 to 99; IllegalArgumentException if margin is out of range", () -> {
            CurvedNames x = new CurvedNames();
            Checks.due("0", 1, x.setMargin(0));
            Checks.due("that is so", 0, x.setting(6));
            Checks.due("99", 0, x.setMargin(99));
            Checks.due("that is so", 99, x.setting(6));
            Twins.refused(Checks.ILLEGAL, Twins::used, y -> y.setMargin(-1), y -> y.setMargin(100));
            for (int margin : FAR_OUT) {
                Checks.thrown("" + margin, Checks.ILLEGAL, () -> x.setMargin(margin));
            }
        });
        sentence(37, "@return the one before", () -> {
            CurvedNames x = Checks.read("margin 42;");
            Checks.due("of the text", 42, x.setMargin(42));
            Checks.due("the same", 42, x.setMargin(7));
            Checks.due("of the call before", 7, x.setMargin(8));
            x.undo();
            Checks.due("of what was undone to", 7, x.setMargin(8));
        });
    }

    private static void setRadius() {
        sentence(38, "1 to 99; IllegalArgumentException if radius is out of range", () -> {
            CurvedNames x = Checks.read("arc 9 9;arc 8 9;");
            Checks.due("1", 8, x.setRadius(1, 1));
            Checks.due("99", 1, x.setRadius(1, 99));
            Checks.due("that is so", 99, x.arc(1, 0));
            Checks.due("the other arc", 9, x.arc(0, 0));
            Twins.refused(Checks.ILLEGAL, Twins::used, y -> y.setRadius(0, 0), y -> y.setRadius(1, 100), y -> y.setRadius(1, -1));
            for (int radius : FAR_OUT) {
                Checks.thrown("" + radius, Checks.ILLEGAL, () -> x.setRadius(0, radius));
            }
        });
        sentence(38, "IndexOutOfBoundsException of an arc that does not exist", () -> {
            Twins.refused(Checks.INDEX, Twins::used, y -> y.setRadius(2, 5), y -> y.setRadius(-1, 5), y -> y.setRadius(2, 0));
            CurvedNames x = Checks.read("arc 9 9;".repeat(8));
            Checks.due("the 8th", 9, x.setRadius(7, 5));
            Checks.thrown("no 9th", Checks.INDEX, () -> x.setRadius(8, 5));
            for (int arc : FAR_OUT) {
                Checks.thrown("" + arc, Checks.INDEX, () -> x.setRadius(arc, 5));
                Checks.thrown("both wrong", Checks.INDEX, () -> x.setRadius(arc, 100));
            }
            Checks.thrown("no arcs", Checks.INDEX, () -> new CurvedNames().setRadius(0, 5));
        });
    }

    private static void setWidth() {
        sentence(39, "the width, 1 to 99, .. IllegalArgumentException if width is out of range", () -> {
            CurvedNames x = Checks.read("arc 9 9;name az;");
            Checks.due("1", 4, x.setWidth(0, 1));
            Checks.due("that is so", 1000, x.letter(0, 1));
            Checks.due("99", 1, x.setWidth(0, 99));
            Checks.due("that is so", 99000, x.letter(0, 1));
            Checks.due("the other letter", 4000, x.letter(1, 1));
            Twins.refused(Checks.ILLEGAL, Twins::used, y -> y.setWidth(0, 0), y -> y.setWidth(3, 100), y -> y.setWidth(1, -1));
            for (int width : FAR_OUT) {
                Checks.thrown("" + width, Checks.ILLEGAL, () -> x.setWidth(0, width));
            }
            Checks.due("as wide as before", 99, x.setWidth(0, 4));
        });
        sentence(39, "IllegalArgumentException if place is not 0 to 25", () -> {
            CurvedNames x = Checks.read("arc 9 9;name az;");
            Checks.due("0", 4, x.setWidth(0, 7));
            Checks.due("25", 4, x.setWidth(25, 8));
            Checks.due("that is so", "7000 8000", x.letter(0, 1) + " " + x.letter(1, 1));
            Twins.refused(Checks.ILLEGAL, Twins::used, y -> y.setWidth(-1, 5), y -> y.setWidth(26, 5), y -> y.setWidth(26, 0));
            for (int place : FAR_OUT) {
                Checks.thrown("" + place, Checks.ILLEGAL, () -> x.setWidth(place, 5));
            }
        });
        sentence(39, "of a letter of the alphabet (0 for a)", () -> {
            CurvedNames x = new CurvedNames();
            for (int place = 0; place < 26; place++) {
                Checks.due("each has its own", 4, x.setWidth(place, 10 + place));
            }
            for (int place = 0; place < 26; place++) {
                Checks.due("each has its own", 10 + place, x.setWidth(place, 4));
            }
        });
    }

    private static void refusedAreNoChanges() {
        sentence(42, "a change that was refused is none that can be undone", () -> {
            CurvedNames x = hard();
            Checks.thrown("engrave", Checks.INDEX, () -> x.engrave(3));
            Checks.thrown("mend", Checks.INDEX, () -> x.mend(0));
            Checks.thrown("polish", Checks.STATE, () -> x.polish(0));
            Checks.thrown("sharpen", Checks.ILLEGAL, () -> x.sharpen(0));
            Checks.thrown("setMargin", Checks.ILLEGAL, () -> x.setMargin(-1));
            Checks.thrown("setRadius", Checks.ILLEGAL, () -> x.setRadius(0, 0));
            Checks.thrown("setWidth", Checks.ILLEGAL, () -> x.setWidth(0, 0));
            Checks.due("none", 0, x.setting(13));
            Checks.due("none", -1, x.undo());
        });
    }
}
