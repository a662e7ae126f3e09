/** The sentences of promises 8 to 24, what is there, the curve, letters, rooms and flourishes, that name a boundary case. */
public final class PlateBoundsTest {
    private static final int[] FAR_OUT = {Integer.MIN_VALUE, -2, -1, 1000000000, Integer.MAX_VALUE};
    /** The whole turn is 1800, the parts are 20250; the arcs end at 900 (9000), 1350 (18000) and 1800. */
    private static final String ARCS = "arc 10 90;arc 20 45 right hard 7;arc 5 45;";
    private static final String TWENTY = "name dddddddd;name dddddddd;name dddd;";
    private static final String HARD = "arc 9 9 hard 99;name da;sharp 1;";

    private PlateBoundsTest() {
    }

    public static void main(String[] args) {
        settings();
        settingsThatCount();
        arcs();
        letters();
        lettersChange();
        scratches();
        flourishLetters();
        partsAt();
        heading();
        turnAt();
        farthestLeft();
        rooms();
        crowdedAndTightest();
        flourishes();
        worths();
        means();
        Checks.end();
    }

    private static void sentence(int promise, String words, Runnable test) {
        Checks.sentence("Promise " + promise, words, test);
    }

    private static void settings() {
        sentence(8, "IllegalArgumentException if what is out of range", () -> {
            CurvedNames x = new CurvedNames();
            Checks.due("0", 0, x.setting(0));
            Checks.due("13", 0, x.setting(13));
            Checks.thrown("14", Checks.ILLEGAL, () -> x.setting(14));
            for (int what : FAR_OUT) {
                Checks.thrown("" + what, Checks.ILLEGAL, () -> x.setting(what));
                Twins.refused(Checks.ILLEGAL, Twins::used, y -> y.setting(what), y -> y.setting(14));
            }
        });
        sentence(8, "0 arcs, 1 letters, 2 kinds of flourishes, 3 the whole turn, 4 the parts of the whole curve", () -> {
            StringBuilder kinds = new StringBuilder();
            for (char c = 'a'; c < 'g'; c++) {
                kinds.append("flourish ").append(c).append(" 1 1 1;");
            }
            CurvedNames full = Checks.read("arc 99 180;".repeat(8) + TWENTY + kinds);
            int[] due = {8, 20, 6, 14400, 1425600};
            for (int what = 0; what < 5; what++) {
                Checks.due("the most of " + what, due[what], full.setting(what));
                Checks.due("none of " + what, 0, new CurvedNames().setting(what));
            }
        });
        sentence(8, "5 how sharp the graver is, 6 the margin, .. 10 the x of the draws", () -> {
            CurvedNames least = Checks.read("sharp 1;margin 0;seed 0;");
            CurvedNames most = Checks.read("sharp 99;margin 99;seed 999;");
            Checks.due("least", "1 0 0", least.setting(5) + " " + least.setting(6) + " " + least.setting(10));
            Checks.due("most", "99 99 999", most.setting(5) + " " + most.setting(6) + " " + most.setting(10));
            CurvedNames blunt = Checks.read("arc 1 1 hard 0;name a;sharp 1;");
            blunt.engrave(0);
            Checks.due("blunt", 0, blunt.setting(5));
        });
    }

    private static void settingsThatCount() {
        sentence(8, "7 scratches, 8 letters that are engraved, 9 letters that are spoiled", () -> {
            CurvedNames x = Checks.read("arc 1 9 hard 99;" + TWENTY + "sharp 1;");
            Checks.due("none", "0 0 0", x.setting(7) + " " + x.setting(8) + " " + x.setting(9));
            x.engrave(0);
            Checks.due("a letter with 4 scratches behind it counts once", "4 1 1", x.setting(7) + " " + x.setting(8) + " " + x.setting(9));
            x.engraveAll();
            Checks.due("the most scratches", "44 11 11", x.setting(7) + " " + x.setting(8) + " " + x.setting(9));
            CurvedNames soft = Checks.read("arc 1 9 hard 0;" + TWENTY);
            soft.engraveAll();
            Checks.due("all letters", "0 20 0", soft.setting(7) + " " + soft.setting(8) + " " + soft.setting(9));
        });
        sentence(8, "11 slips since the text was read, 12 strokes since then", () -> {
            CurvedNames x = Checks.read(HARD);
            x.engraveAll();
            Checks.due("slips and strokes", "5 5", x.setting(11) + " " + x.setting(12));
            x.mend(0);
            x.polish(1);
            Checks.due("those of what went count", "5 5", x.setting(11) + " " + x.setting(12));
            x.sharpen(99);
            x.engrave(1);
            Checks.due("a stroke without a slip", "5 6", x.setting(11) + " " + x.setting(12));
            x.slipsIf();
            x.leastSharp();
            Checks.due("those that would be do not count", "5 6", x.setting(11) + " " + x.setting(12));
            Checks.put(x, "foo");
            Checks.thrown("a wrong text", Checks.ILLEGAL, x::readText);
            Checks.due("was not read", "5 6", x.setting(11) + " " + x.setting(12));
            x.readText();
            Checks.due("a text was read", "0 0", x.setting(11) + " " + x.setting(12));
        });
        sentence(8, "13 changes that can be undone", () -> {
            CurvedNames x = new CurvedNames();
            for (int i = 1; i <= 8; i++) {
                x.setMargin(i);
                Checks.due("behind " + i, Math.min(i, 6), x.setting(13));
            }
            x.undo();
            Checks.due("undone", 5, x.setting(13));
        });
    }

    private static void arcs() {
        sentence(9, "IllegalArgumentException if what is out of range", () -> {
            CurvedNames x = Checks.read(ARCS);
            Checks.due("0", 10, x.arc(0, 0));
            Checks.due("6", 0, x.arc(0, 6));
            Checks.thrown("7", Checks.ILLEGAL, () -> x.arc(0, 7));
            for (int what : FAR_OUT) {
                Checks.thrown("" + what, Checks.ILLEGAL, () -> x.arc(2, what));
            }
        });
        sentence(9, "IndexOutOfBoundsException of an arc that does not exist", () -> {
            CurvedNames x = Checks.read(ARCS);
            Checks.due("the last", 5, x.arc(2, 0));
            Checks.thrown("3", Checks.INDEX, () -> x.arc(3, 0));
            for (int arc : FAR_OUT) {
                Checks.thrown("" + arc, Checks.INDEX, () -> x.arc(arc, 0));
                Checks.thrown("both wrong", Checks.INDEX, () -> x.arc(arc, 7));
            }
            CurvedNames full = Checks.read("arc 9 9;".repeat(8));
            Checks.due("the 8th", 9, full.arc(7, 0));
            Checks.thrown("no 9th", Checks.INDEX, () -> full.arc(8, 0));
            Checks.thrown("none", Checks.INDEX, () -> new CurvedNames().arc(0, 0));
        });
        sentence(9, "4 the turn at its beginning, 5 the parts at its beginning", () -> {
            CurvedNames x = Checks.read(ARCS);
            int[][] due = {{0, 0}, {900, 9000}, {1350, 18000}};
            for (int arc = 0; arc < 3; arc++) {
                Checks.due("turn", due[arc][0], x.arc(arc, 4));
                Checks.due("parts", due[arc][1], x.arc(arc, 5));
            }
            CurvedNames full = Checks.read("arc 99 180;".repeat(8));
            Checks.due("of the 8th", 7 * 1800, full.arc(7, 4));
            Checks.due("of the 8th", 7 * 178200, full.arc(7, 5));
        });
        sentence(9, "6 how many centres of letters lie on it", () -> {
            Checks.due("no letters", 0, Checks.read(ARCS).arc(1, 6));
            Checks.due("all", 20, Checks.read("arc 1 1;" + TWENTY).arc(0, 6));
            CurvedNames x = Checks.read("arc 9 10;arc 9 10;name a;");
            Checks.due("a centre at its end is not on it", 0, x.arc(0, 6));
            Checks.due("a centre at its beginning is on it", 1, x.arc(1, 6));
        });
    }

    private static void letters() {
        sentence(10, "IllegalArgumentException if what is out of range", () -> {
            CurvedNames x = Checks.read(HARD);
            Checks.due("0", 3, x.letter(0, 0));
            Checks.due("12", 0, x.letter(0, 12));
            Checks.thrown("13", Checks.ILLEGAL, () -> x.letter(0, 13));
            for (int what : FAR_OUT) {
                Checks.thrown("" + what, Checks.ILLEGAL, () -> x.letter(1, what));
            }
        });
        sentence(10, "IndexOutOfBoundsException of a letter that does not exist", () -> {
            CurvedNames x = Checks.read(HARD);
            Checks.due("the last", 0, x.letter(1, 0));
            Checks.thrown("2", Checks.INDEX, () -> x.letter(2, 0));
            for (int letter : FAR_OUT) {
                Checks.thrown("" + letter, Checks.INDEX, () -> x.letter(letter, 0));
                Checks.thrown("both wrong", Checks.INDEX, () -> x.letter(letter, 13));
            }
            CurvedNames full = Checks.read(TWENTY);
            Checks.due("the 20th", 3, full.letter(19, 0));
            Checks.thrown("no 21st", Checks.INDEX, () -> full.letter(20, 0));
            Checks.thrown("none", Checks.INDEX, () -> new CurvedNames().letter(0, 0));
        });
        sentence(10, "0 its place in the alphabet (a is 0), 1 its parts", () -> {
            CurvedNames x = Checks.read("arc 9 9;name az;wide a 1;wide z 99;");
            Checks.due("a", "0 1000", x.letter(0, 0) + " " + x.letter(0, 1));
            Checks.due("z", "25 99000", x.letter(1, 0) + " " + x.letter(1, 1));
        });
        sentence(10, "4 its left edge, 5 its right edge", () -> {
            CurvedNames x = Checks.read("arc 1 1;name a;wide a 99;");
            Checks.due("ahead of the curve", 5 - 49500, x.letter(0, 4));
            Checks.due("behind the curve", 5 + 49500, x.letter(0, 5));
        });
        sentence(10, "6 the heading at its centre, 7 the arc of its centre (NONE without arcs)", () -> {
            CurvedNames x = Checks.read("arc 9 10 right;arc 9 10;name a;");
            Checks.due("below 0", 2600 + 900, x.letter(0, 6));
            Checks.due("at the end of arc 0", 1, x.letter(0, 7));
            CurvedNames none = Checks.read("name ab;");
            Checks.due("no arcs", -1, none.letter(0, 7));
            Checks.due("no arcs", -1, none.letter(1, 7));
            Checks.due("no arcs: turn, parts, heading", "0 0 0", none.letter(1, 2) + " " + none.letter(1, 3) + " " + none.letter(1, 6));
            CurvedNames last = Checks.read("arc 1 180;".repeat(7) + "arc 1 180 right;" + TWENTY);
            Checks.due("the 8th", 7, last.letter(19, 7));
        });
    }

    private static void lettersChange() {
        sentence(10, "8 1 if it is engraved, otherwise 0, 9 1 if it is spoiled, otherwise 0", () -> {
            CurvedNames x = Checks.read("arc 80 1 hard 99;arc 60 8 hard 99;name aaaaa;wide a 1;seed 326;sharp 98;");
            Checks.due("planned", 0, x.letter(0, 8));
            Checks.due("not spoiled", 0, x.letter(1, 9));
            x.engrave(0);
            Checks.due("engraved", 1, x.letter(0, 8));
            Checks.due("planned", 0, x.letter(1, 8));
            Checks.due("reaches as far as the room", 0, x.letter(1, 9));
            x.setRadius(0, 79);
            Checks.due("reaches farther", 1, x.letter(1, 9));
            x.mend(0);
            Checks.due("mended", 0, x.letter(1, 9));
            x.polish(0);
            Checks.due("planned again", 0, x.letter(0, 8));
        });
        sentence(10, "11 its mends, 12 its scratches", () -> {
            CurvedNames x = Checks.read(HARD);
            Checks.due("none", "0 0", x.letter(0, 11) + " " + x.letter(0, 12));
            x.engrave(0);
            Checks.due("the most scratches", "0 4", x.letter(0, 11) + " " + x.letter(0, 12));
            x.mend(0);
            x.mend(0);
            x.polish(0);
            Checks.due("the most mends", "3 0", x.letter(0, 11) + " " + x.letter(0, 12));
            Checks.due("the other one's", "0 0", x.letter(1, 11) + " " + x.letter(1, 12));
        });
    }

    private static void scratches() {
        sentence(11, "IllegalArgumentException if what is out of range", () -> {
            CurvedNames x = Checks.read(HARD);
            x.engraveAll();
            Checks.due("0", 1, x.scratch(4, 0));
            Checks.due("2", -1, x.scratch(4, 2));
            Checks.thrown("3", Checks.ILLEGAL, () -> x.scratch(4, 3));
            for (int what : FAR_OUT) {
                Checks.thrown("" + what, Checks.ILLEGAL, () -> x.scratch(0, what));
            }
        });
        sentence(11, "IndexOutOfBoundsException of a scratch that does not exist", () -> {
            CurvedNames x = Checks.read(HARD);
            Checks.thrown("none yet", Checks.INDEX, () -> x.scratch(0, 0));
            x.engraveAll();
            Checks.due("the last", 1, x.scratch(4, 0));
            Checks.thrown("5", Checks.INDEX, () -> x.scratch(5, 0));
            for (int scratch : FAR_OUT) {
                Checks.thrown("" + scratch, Checks.INDEX, () -> x.scratch(scratch, 0));
                Checks.thrown("both wrong", Checks.INDEX, () -> x.scratch(scratch, 3));
            }
            x.mend(0);
            Checks.thrown("one went", Checks.INDEX, () -> x.scratch(4, 0));
            CurvedNames full = Checks.read("arc 9 9 hard 99;" + TWENTY + "sharp 1;");
            full.engraveAll();
            Checks.due("the 44th", 10, full.scratch(43, 0));
            Checks.thrown("no 45th", Checks.INDEX, () -> full.scratch(44, 0));
        });
        sentence(11, "2 the letter that it spoils (NONE)", () -> {
            CurvedNames x = Checks.read("arc 1 9 hard 99;name aa;sharp 1;");
            x.engraveAll();
            Checks.due("the letter behind", 1, x.scratch(0, 2));
            Checks.due("none behind the last", -1, x.scratch(1, 2));
            x.setRadius(0, 99);
            x.setWidth(0, 1);
            Checks.due("none within the room", -1, x.scratch(0, 2));
        });
    }

    private static void flourishLetters() {
        sentence(12, "the code of character i of the NAME of a flourish; 0 if there is none such (i: any int)", () -> {
            CurvedNames x = Checks.read("flourish abcdefgh 1 1 1;flourish z 1 1 1;");
            Checks.due("the first", (int) 'a', x.flourishLetter(0, 0));
            Checks.due("the 8th", (int) 'h', x.flourishLetter(0, 7));
            Checks.due("no 9th", 0, x.flourishLetter(0, 8));
            Checks.due("the only one", (int) 'z', x.flourishLetter(1, 0));
            Checks.due("no second", 0, x.flourishLetter(1, 1));
            Checks.due("not the next name's", 0, x.flourishLetter(0, 9));
            for (int i : FAR_OUT) {
                Checks.due("far out", 0, x.flourishLetter(0, i));
                Checks.due("far out", 0, x.flourishLetter(1, i));
            }
        });
        sentence(12, "IndexOutOfBoundsException of a flourish that does not exist", () -> {
            CurvedNames x = Checks.read("flourish abcdefgh 1 1 1;flourish z 1 1 1;");
            Checks.thrown("2", Checks.INDEX, () -> x.flourishLetter(2, 0));
            for (int kind : FAR_OUT) {
                Checks.thrown("" + kind, Checks.INDEX, () -> x.flourishLetter(kind, 0));
                Checks.thrown("and i, too", Checks.INDEX, () -> x.flourishLetter(kind, kind));
            }
            Checks.thrown("none", Checks.INDEX, () -> new CurvedNames().flourishLetter(0, 0));
        });
    }

    private static void partsAt() {
        sentence(13, "IllegalArgumentException if turn is not 0 to the whole turn", () -> {
            CurvedNames x = Checks.read(ARCS);
            Checks.due("0", 0, x.partsAt(0));
            Checks.due("the whole turn", 20250, x.partsAt(1800));
            Checks.thrown("1801", Checks.ILLEGAL, () -> x.partsAt(1801));
            for (int turn : FAR_OUT) {
                Checks.thrown("" + turn, Checks.ILLEGAL, () -> x.partsAt(turn));
            }
            Checks.due("no arcs: 0", 0, new CurvedNames().partsAt(0));
            Checks.thrown("no arcs: 1", Checks.ILLEGAL, () -> new CurvedNames().partsAt(1));
            Checks.thrown("no arcs: -1", Checks.ILLEGAL, () -> new CurvedNames().partsAt(-1));
        });
        sentence(13, "Returns the parts at a turn", () -> {
            CurvedNames x = Checks.read(ARCS);
            int[][] due = {{1, 10}, {899, 8990}, {900, 9000}, {901, 9020}, {1349, 17980}, {1350, 18000}, {1351, 18005}, {1799, 20245}};
            for (int[] row : due) {
                Checks.due("at " + row[0], row[1], x.partsAt(row[0]));
            }
            Checks.due("the most", 1425600, Checks.read("arc 99 180;".repeat(8)).partsAt(14400));
        });
    }

    private static void heading() {
        sentence(14, "IllegalArgumentException if turn is not 0 to the whole turn", () -> {
            CurvedNames x = Checks.read(ARCS);
            Checks.due("0", 0, x.heading(0));
            Checks.due("the whole turn", 900, x.heading(1800));
            Checks.thrown("1801", Checks.ILLEGAL, () -> x.heading(1801));
            for (int turn : FAR_OUT) {
                Checks.thrown("" + turn, Checks.ILLEGAL, () -> x.heading(turn));
            }
            Checks.due("no arcs: 0", 0, new CurvedNames().heading(0));
            Checks.thrown("no arcs: 1", Checks.ILLEGAL, () -> new CurvedNames().heading(1));
            Checks.thrown("no arcs: -1", Checks.ILLEGAL, () -> new CurvedNames().heading(-1));
        });
        sentence(14, "Returns the heading at a turn", () -> {
            CurvedNames x = Checks.read(ARCS);
            int[][] due = {{1, 1}, {899, 899}, {900, 900}, {901, 899}, {1349, 451}, {1350, 450}, {1351, 451}, {1799, 899}};
            for (int[] row : due) {
                Checks.due("at " + row[0], row[1], x.heading(row[0]));
            }
            CurvedNames right = Checks.read("arc 1 1 right;arc 1 2;");
            int[][] rightDue = {{1, 3599}, {10, 3590}, {19, 3599}, {20, 0}, {21, 1}};
            for (int[] row : rightDue) {
                Checks.due("around 0 at " + row[0], row[1], right.heading(row[0]));
            }
            CurvedNames full = Checks.read("arc 99 180;".repeat(7) + "arc 99 179 right;");
            Checks.due("of 8 arcs", 1800 * 7 - 1790 - 3600 * 3, full.heading(14390));
            Checks.thrown("of 8 arcs", Checks.ILLEGAL, () -> full.heading(14391));
        });
    }

    private static void turnAt() {
        sentence(15, "IllegalArgumentException if parts is not 0 to those of the whole curve", () -> {
            CurvedNames x = Checks.read(ARCS);
            Checks.due("0", 0, x.turnAt(0));
            Checks.due("the whole curve", 1800, x.turnAt(20250));
            Checks.thrown("20251", Checks.ILLEGAL, () -> x.turnAt(20251));
            for (int parts : FAR_OUT) {
                Checks.thrown("" + parts, Checks.ILLEGAL, () -> x.turnAt(parts));
            }
            Checks.due("no arcs: 0", 0, new CurvedNames().turnAt(0));
            Checks.thrown("no arcs: 1", Checks.ILLEGAL, () -> new CurvedNames().turnAt(1));
            Checks.thrown("no arcs: -1", Checks.ILLEGAL, () -> new CurvedNames().turnAt(-1));
            x.setRadius(2, 6);
            Checks.due("those of now", 1799, x.turnAt(20699));
            Checks.due("those of now", 1800, x.turnAt(20700));
            Checks.thrown("those of now", Checks.ILLEGAL, () -> x.turnAt(20701));
        });
        sentence(15, "the greatest turn at which there are at most so many parts", () -> {
            CurvedNames x = Checks.read(ARCS);
            int[][] due = {{9, 0}, {10, 1}, {8999, 899}, {9000, 900}, {9001, 900}, {9019, 900}, {9020, 901}, {17999, 1349},
                {18000, 1350}, {18004, 1350}, {18005, 1351}, {20249, 1799}};
            for (int[] row : due) {
                Checks.due("with " + row[0], row[1], x.turnAt(row[0]));
            }
            CurvedNames thin = Checks.read("arc 1 1;arc 2 1;");
            int[][] thinDue = {{0, 0}, {1, 1}, {9, 9}, {10, 10}, {11, 10}, {12, 11}, {29, 19}, {30, 20}};
            for (int[] row : thinDue) {
                Checks.due("a radius of 1 and of 2, with " + row[0], row[1], thin.turnAt(row[0]));
            }
            CurvedNames full = Checks.read("arc 99 180;".repeat(8));
            Checks.due("the most but one", 14399, full.turnAt(1425599));
            Checks.due("the most", 14400, full.turnAt(1425600));
            Checks.thrown("more", Checks.ILLEGAL, () -> full.turnAt(1425601));
        });
    }

    private static void farthestLeft() {
        sentence(16, "the greatest sum of tenths to the left less those to the right (0 at least)", () -> {
            Checks.due("no arcs", 0, new CurvedNames().farthestLeft());
            Checks.due("at the beginning", 0, Checks.read("arc 1 1 right;").farthestLeft());
            Checks.due("at the beginning", 0, Checks.read("arc 1 2 right;arc 1 1;").farthestLeft());
            Checks.due("back at 0", 0, Checks.read("arc 1 2 right;arc 1 2;").farthestLeft());
            Checks.due("by 10", 10, Checks.read("arc 1 2 right;arc 1 3;").farthestLeft());
        });
        sentence(16, "from the beginning to some turn", () -> {
            Checks.due("at the end", 10, Checks.read("arc 1 1;").farthestLeft());
            Checks.due("in between", 30, Checks.read("arc 1 3;arc 1 2 right;arc 1 1;").farthestLeft());
            Checks.due("the second of like ones", 30, Checks.read("arc 1 3;arc 1 2 right;arc 1 2;").farthestLeft());
            Checks.due("the last", 40, Checks.read("arc 1 3;arc 1 2 right;arc 1 3;").farthestLeft());
            Checks.due("as the curve bends, not modulo 3600", 14400, Checks.read("arc 1 180;".repeat(8)).farthestLeft());
            Checks.due("exactly 3600", 3600, Checks.read("arc 1 180;arc 1 180;").farthestLeft());
        });
    }

    private static void rooms() {
        sentence(17, "IndexOutOfBoundsException of a room that does not exist (rooms are 0 to the number of letters)", () -> {
            CurvedNames x = Checks.read("arc 10 90;name ab;");
            Checks.due("0", 250, x.room(0));
            Checks.due("the last", 250, x.room(2));
            Checks.thrown("3", Checks.INDEX, () -> x.room(3));
            for (int room : FAR_OUT) {
                Checks.thrown("" + room, Checks.INDEX, () -> x.room(room));
            }
            Checks.due("without letters", 9000, Checks.read("arc 10 90;").room(0));
            Checks.thrown("without letters", Checks.INDEX, () -> Checks.read("arc 10 90;").room(1));
            CurvedNames full = Checks.read("arc 99 180;" + TWENTY);
            Checks.due("the 21st", 2455, full.room(20));
            Checks.thrown("no 22nd", Checks.INDEX, () -> full.room(21));
        });
        sentence(17, "Returns the parts of a room", () -> {
            Checks.due("below 0", "-1998 -3995 -1997", Checks.rooms(Checks.read("arc 1 1;name ab;")));
            CurvedNames x = Checks.read("arc 10 90;name ab;");
            x.setWidth(0, 99);
            Checks.due("as it is now", "-47250 -47000 250", Checks.rooms(x));
        });
    }

    private static void crowdedAndTightest() {
        sentence(18, "the rooms that are crowded, as a set", () -> {
            CurvedNames x = Checks.read("arc 10 90;name ab;");
            Checks.due("250 250 500 with margin 2", 0, x.crowded());
            x.setMargin(2);
            Checks.due("200", 0, x.crowded());
            x.setMargin(3);
            Checks.due("300", 5, x.crowded());
            x.setMargin(5);
            Checks.due("exactly 500", 5, x.crowded());
            x.setMargin(6);
            Checks.due("600", 7, x.crowded());
            Checks.due("21 rooms", 2097151, Checks.read(TWENTY).crowded());
            Checks.due("an empty curve", 1, new CurvedNames().crowded());
            Checks.due("an empty curve without margin", 0, Checks.read("margin 0;").crowded());
        });
        sentence(19, "the room with the fewest parts, the lowest one of several", () -> {
            Checks.due("the only one", 0, new CurvedNames().tightest());
            Checks.due("0 and 2 of like ones", 0, Checks.read("arc 10 90;name ab;").tightest());
            Checks.due("1 and 2 of like ones", 1, Checks.read("arc 10 90;name abc;").tightest());
            CurvedNames x = Checks.read("arc 60 2;arc 60 17;name aaaaa;wide a 9;");
            Checks.due("1 to 4 of like ones", 1, x.tightest());
            x.setRadius(0, 61);
            Checks.due("1 is greater by one part", 2, x.tightest());
            x.setRadius(0, 59);
            Checks.due("1 is less by one part", 1, x.tightest());
            Checks.due("the last one", 20, Checks.read("arc 99 180;arc 1 10;" + TWENTY + "wide d 1;").tightest());
            Checks.due("the least below 0", 1, Checks.read("name abc;").tightest());
        });
    }

    private static void flourishes() {
        sentence(20, "IndexOutOfBoundsException of a room that does not exist", () -> {
            CurvedNames x = Checks.read("arc 99 90;name ab;flourish f 1 1 9;");
            Checks.due("0", 0, x.flourishIn(0));
            Checks.due("the last", 0, x.flourishIn(2));
            Checks.thrown("3", Checks.INDEX, () -> x.flourishIn(3));
            for (int room : FAR_OUT) {
                Checks.thrown("" + room, Checks.INDEX, () -> x.flourishIn(room));
            }
            Checks.thrown("without letters", Checks.INDEX, () -> new CurvedNames().flourishIn(1));
        });
        sentence(20, "the kind of the flourish in a room; NONE if there is none", () -> {
            Checks.due("no kinds", -1, Checks.read("arc 99 90;").flourishIn(0));
            Checks.due("kind 0", 0, Checks.read("arc 99 90;flourish f 1 1 1;").flourishIn(0));
            CurvedNames six = Checks.read("arc 99 90;flourish a 1 1 1;flourish b 1 1 1;flourish c 1 1 1;flourish d 1 1 1;"
                + "flourish e 1 1 1;flourish f 1 2 1;");
            Checks.due("kind 5", 5, six.flourishIn(0));
            CurvedNames fit = Checks.read("arc 12 10;flourish f 1 1 1;");
            Checks.due("1200 parts", 0, fit.flourishIn(0));
            fit.setRadius(0, 11);
            Checks.due("1100 parts", -1, fit.flourishIn(0));
            CurvedNames stock = Checks.read("arc 99 90;name ab;flourish f 1 1 2;");
            Checks.due("the largest room", 0, stock.flourishIn(1));
            Checks.due("the first of like ones", 0, stock.flourishIn(0));
            Checks.due("none is left", -1, stock.flourishIn(2));
        });
        sentence(21, "how many of a kind of flourishes are left in stock", () -> {
            Checks.due("all", 9, Checks.read("flourish f 1 1 9;").stockLeft(0));
            Checks.due("all but one", 8, Checks.read("arc 99 90;flourish f 1 1 9;").stockLeft(0));
            CurvedNames x = Checks.read("arc 99 90;name ab;flourish f 1 1 3;");
            Checks.due("none", 0, x.stockLeft(0));
            x.setMargin(99);
            Checks.due("only room 1 takes one then", 2, x.stockLeft(0));
            x.setWidth(0, 99);
            Checks.due("no room takes one then", 3, x.stockLeft(0));
        });
        sentence(21, "IndexOutOfBoundsException of a flourish that does not exist", () -> {
            CurvedNames x = Checks.read("flourish f 1 1 1;flourish g 1 1 2;");
            Checks.due("the last", 2, x.stockLeft(1));
            Checks.thrown("2", Checks.INDEX, () -> x.stockLeft(2));
            for (int kind : FAR_OUT) {
                Checks.thrown("" + kind, Checks.INDEX, () -> x.stockLeft(kind));
            }
            Checks.thrown("none", Checks.INDEX, () -> new CurvedNames().stockLeft(0));
        });
    }

    private static void worths() {
        sentence(22, "the worth of all flourishes in rooms together", () -> {
            Checks.due("no kinds", 0, Checks.read("arc 99 90;").worth());
            Checks.due("none fits", 0, Checks.read("flourish f 1 99 9;").worth());
            Checks.due("one", 99, Checks.read("arc 99 90;flourish f 1 99 9;").worth());
            CurvedNames most = Checks.read("arc 99 180;".repeat(8) + TWENTY + "wide d 1;margin 0;"
                + "flourish a 1 99 9;flourish b 1 99 9;flourish c 1 99 9;");
            Checks.due("21 rooms", 21 * 99, most.worth());
            Checks.due("stock is left", 6, most.stockLeft(2));
            CurvedNames out = Checks.read("arc 99 180;" + TWENTY + "wide d 1;margin 0;flourish a 1 99 9;flourish b 1 1 1;");
            Checks.due("out of stock", 9 * 99 + 1, out.worth());
        });
    }

    private static void means() {
        sentence(23, "the mean parts of all rooms, as a double (sum / number)", () -> {
            Checks.due("none", 0.0, new CurvedNames().meanRoom());
            Checks.due("one", 9000.0, Checks.read("arc 10 90;").meanRoom());
            Checks.due("a half", 2062.5, Checks.read(ARCS + "name aeh;").meanRoom());
            Checks.due("a third", 20500.0 / 3, Checks.read("arc 30 95;name ab;").meanRoom());
            Checks.due("below 0", -7000.0 / 3, Checks.read("name ab;wide a 3;").meanRoom());
            Checks.due("the most", 1425600.0, Checks.read("arc 99 180;".repeat(8)).meanRoom());
            Checks.due("the least", -1980000.0 / 21, Checks.read(TWENTY + "wide d 99;").meanRoom());
        });
        sentence(24, "the parts of all letters as a float, divided by those of the whole curve as a float", () -> {
            Checks.due("no letters", 0.0f, Checks.read("arc 10 20;").filled());
            Checks.due("a third", 12000f / 36000f, Checks.read("arc 20 180;name abc;").filled());
            Checks.due("1", 1.0f, Checks.read("arc 10 40;name a;").filled());
            Checks.due("more than 1", 1980000f / 10f, Checks.read("arc 1 1;" + TWENTY + "wide d 99;").filled());
            Checks.due("the least", 1000f / 1425600f, Checks.read("arc 99 180;".repeat(8) + "name a;wide a 1;").filled());
        });
        sentence(24, "0.0f without arcs", () -> {
            Checks.due("no letters", 0.0f, new CurvedNames().filled());
            Checks.due("letters", 0.0f, Checks.read("name abc;").filled());
        });
    }
}
