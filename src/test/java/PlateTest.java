/** Promises 8 to 24: what is there, the curve, letters, rooms and flourishes. */
public final class PlateTest {
    /** Rooms 1000, 2000, 5750 and -500. */
    private static final String ARCS = "arc 10 90; arc 20 45 right hard 7; arc 5 45;";
    private static final String KINDS = "flourish p 1 5 1; flourish q 1 5 2; flourish rst 5 9 1;";

    public static void main(String[] args) {
        promise8();
        promise9();
        promise10();
        promise12();
        promises13And14();
        promise15();
        promise16();
        promises17To19();
        promises20To22();
        promises23And24();
        lettersWithoutArcs();
        Checks.end();
    }

    private static CurvedNames plate() {
        return Checks.read(ARCS + "name aeh;" + KINDS);
    }

    private static void promise8() {
        CurvedNames x = Checks.read(ARCS + "name aeh;" + KINDS + "seed 77; sharp 60; margin 3;");
        int[] due = {3, 3, 3, 1800, 20250, 60, 3, 0, 0, 0, 77, 0, 0, 0};
        for (int what = 0; what < due.length; what++) {
            Checks.due("setting " + what, due[what], x.setting(what));
        }
        Checks.thrown("below", Checks.ILLEGAL, () -> x.setting(-1));
        Checks.thrown("above", Checks.ILLEGAL, () -> x.setting(14));
        Checks.thrown("far above", Checks.ILLEGAL, () -> x.setting(Integer.MAX_VALUE));
        CurvedNames widest = Checks.read("arc 99 180;".repeat(8));
        Checks.due("widest turn", 14400, widest.setting(3));
        Checks.due("widest curve", 1425600, widest.setting(4));
    }

    private static void promise9() {
        CurvedNames x = plate();
        int[][] due = {{10, 90, 0, 30, 0, 0, 1}, {20, 45, 1, 7, 900, 9000, 1}, {5, 45, 0, 30, 1350, 18000, 1}};
        for (int arc = 0; arc < 3; arc++) {
            for (int what = 0; what < 7; what++) {
                Checks.due("arc " + arc + " " + what, due[arc][what], x.arc(arc, what));
            }
        }
        Checks.thrown("no such number", Checks.ILLEGAL, () -> x.arc(0, 7));
        Checks.thrown("no such number", Checks.ILLEGAL, () -> x.arc(0, -1));
        Checks.thrown("no such arc", Checks.INDEX, () -> x.arc(3, 0));
        Checks.thrown("no such arc", Checks.INDEX, () -> x.arc(-1, 0));
        Checks.thrown("the first of both", Checks.INDEX, () -> x.arc(8, 99));
        Checks.thrown("none", Checks.INDEX, () -> new CurvedNames().arc(0, 0));
        CurvedNames y = Checks.read("arc 9 170;arc 9 1;arc 9 19;name abcdefgh;");
        Checks.due("all centres", 7, y.arc(0, 6));
        Checks.due("no centre", 0, y.arc(1, 6));
        Checks.due("one centre", 1, y.arc(2, 6));
    }

    private static void promise10() {
        CurvedNames x = plate();
        int[][] due = {
            {0, 4000, 300, 3000, 1000, 5000, 300, 0, 0, 0, 1, 0, 0},
            {4, 4000, 900, 9000, 7000, 11000, 900, 1, 0, 0, 1, 0, 0},
            {7, 4000, 1500, 18750, 16750, 20750, 600, 2, 0, 0, 4, 0, 0}};
        for (int letter = 0; letter < 3; letter++) {
            for (int what = 0; what < 13; what++) {
                Checks.due("letter " + letter + " " + what, due[letter][what], x.letter(letter, what));
            }
        }
        Checks.thrown("no such number", Checks.ILLEGAL, () -> x.letter(2, 13));
        Checks.thrown("no such number", Checks.ILLEGAL, () -> x.letter(0, -1));
        Checks.thrown("no such letter", Checks.INDEX, () -> x.letter(3, 0));
        Checks.thrown("no such letter", Checks.INDEX, () -> x.letter(-1, 0));
        Checks.thrown("the first of both", Checks.INDEX, () -> x.letter(20, 99));
        CurvedNames y = Checks.read(ARCS + "name abcdefz; wide z 99;");
        Checks.due("rounded down", 128, y.letter(0, 2));
        Checks.due("rounded down", 1671, y.letter(6, 2));
        Checks.due("widest", 99000, y.letter(6, 1));
        Checks.due("left edge", 18000 + 5 * 321 - 49500, y.letter(6, 4));
        Checks.due("2 strokes of z", 2, y.letter(6, 10));
        Checks.due("3 strokes of c", 3, y.letter(2, 10));
        Checks.due("heading below 0", 3550, Checks.read("arc 9 10 right;name a;").letter(0, 6));
    }

    private static void lettersWithoutArcs() {
        CurvedNames x = Checks.read("name ab; wide a 3;");
        int[][] due = {
            {0, 3000, 0, 0, -1500, 1500, 0, -1, 0, 0, 1, 0, 0},
            {1, 4000, 0, 0, -2000, 2000, 0, -1, 0, 0, 2, 0, 0}};
        for (int letter = 0; letter < 2; letter++) {
            for (int what = 0; what < 13; what++) {
                Checks.due("no arcs: letter " + letter + " " + what, due[letter][what], x.letter(letter, what));
            }
        }
        Checks.due("no arcs: rooms", "-1500 -3500 -2000", Checks.rooms(x));
        Checks.due("no arcs: crowded", 7, x.crowded());
        Checks.due("no arcs: tightest", 1, x.tightest());
        Checks.due("no arcs: filled", 0.0f, x.filled());
        Checks.due("no arcs: danger", 0, x.danger(1));
        Checks.due("no arcs: mean", -7000.0 / 3, x.meanRoom());
    }

    private static void promise12() {
        CurvedNames x = Checks.read("flourish abcdefgh 1 1 1;flourish z 1 1 1;");
        for (int i = 0; i < 8; i++) {
            Checks.due("sign " + i, 'a' + i, x.flourishLetter(0, i));
        }
        Checks.due("behind it", 0, x.flourishLetter(0, 8));
        Checks.due("ahead of it", 0, x.flourishLetter(1, -1));
        Checks.due("far behind", 0, x.flourishLetter(0, Integer.MAX_VALUE));
        Checks.due("far ahead", 0, x.flourishLetter(1, Integer.MIN_VALUE));
        Checks.due("z", (int) 'z', x.flourishLetter(1, 0));
        Checks.due("behind z", 0, x.flourishLetter(1, 1));
        Checks.thrown("no such flourish", Checks.INDEX, () -> x.flourishLetter(2, 0));
        Checks.thrown("no such flourish", Checks.INDEX, () -> x.flourishLetter(-1, 0));
        Checks.put(x, "flourish q 1 1 1;");
        x.readText();
        Checks.due("nothing is left of a longer one", 0, x.flourishLetter(0, 1));
    }

    private static void promises13And14() {
        CurvedNames x = plate();
        int[][] due = {{0, 0, 0}, {1, 10, 1}, {899, 8990, 899}, {900, 9000, 900}, {901, 9020, 899},
            {1350, 18000, 450}, {1351, 18005, 451}, {1800, 20250, 900}};
        for (int[] row : due) {
            Checks.due("parts at " + row[0], row[1], x.partsAt(row[0]));
            Checks.due("heading at " + row[0], row[2], x.heading(row[0]));
        }
        Checks.thrown("parts below", Checks.ILLEGAL, () -> x.partsAt(-1));
        Checks.thrown("parts above", Checks.ILLEGAL, () -> x.partsAt(1801));
        Checks.thrown("heading below", Checks.ILLEGAL, () -> x.heading(-1));
        Checks.thrown("heading above", Checks.ILLEGAL, () -> x.heading(1801));
        Checks.due("no arcs", 0, new CurvedNames().partsAt(0));
        Checks.due("no arcs", 0, new CurvedNames().heading(0));
        Checks.thrown("no arcs", Checks.ILLEGAL, () -> new CurvedNames().partsAt(1));
        Checks.thrown("no arcs", Checks.ILLEGAL, () -> new CurvedNames().heading(1));
        CurvedNames right = Checks.read("arc 1 180 right;arc 1 180 right;arc 1 90 right;");
        Checks.due("right", 3599, right.heading(1));
        Checks.due("half", 1800, right.heading(1800));
        Checks.due("round", 0, right.heading(3600));
        Checks.due("more than round", 2700, right.heading(4500));
        CurvedNames left = Checks.read("arc 1 180;arc 1 180;arc 1 90;");
        Checks.due("left", 3599, left.heading(3599));
        Checks.due("round", 0, left.heading(3600));
        Checks.due("more than round", 900, left.heading(4500));
    }

    private static void promise15() {
        CurvedNames x = plate();
        int[][] due = {{0, 0}, {9, 0}, {10, 1}, {8999, 899}, {9000, 900}, {9019, 900}, {9020, 901}, {17999, 1349},
            {18000, 1350}, {18004, 1350}, {18005, 1351}, {20249, 1799}, {20250, 1800}};
        for (int[] row : due) {
            Checks.due("turn at " + row[0], row[1], x.turnAt(row[0]));
        }
        Checks.thrown("below", Checks.ILLEGAL, () -> x.turnAt(-1));
        Checks.thrown("above", Checks.ILLEGAL, () -> x.turnAt(20251));
        CurvedNames thin = Checks.read("arc 1 9;arc 2 9;arc 1 9;");
        int[][] thinDue = {{1, 1}, {89, 89}, {90, 90}, {91, 90}, {92, 91}, {270, 180}, {271, 181}, {360, 270}};
        for (int[] row : thinDue) {
            Checks.due("thin: turn at " + row[0], row[1], thin.turnAt(row[0]));
        }
        Checks.due("no arcs", 0, new CurvedNames().turnAt(0));
        Checks.thrown("no arcs", Checks.ILLEGAL, () -> new CurvedNames().turnAt(1));
    }

    private static void promise16() {
        Checks.due("none", 0, new CurvedNames().farthestLeft());
        Checks.due("at the end and before", 900, plate().farthestLeft());
        Checks.due("0 at least", 0, Checks.read("arc 1 180 right;arc 1 179;").farthestLeft());
        Checks.due("in between", 200, Checks.read("arc 1 10 right;arc 1 30;arc 1 5 right;").farthestLeft());
        Checks.due("not modulo", 5400, Checks.read("arc 1 180;arc 1 180;arc 1 180;").farthestLeft());
    }

    private static void promises17To19() {
        CurvedNames x = plate();
        Checks.due("rooms", "1000 2000 5750 -500", Checks.rooms(x));
        Checks.thrown("no such room", Checks.INDEX, () -> x.room(4));
        Checks.thrown("no such room", Checks.INDEX, () -> x.room(-1));
        Checks.due("the whole curve", 9000, Checks.read("arc 10 90;").room(0));
        Checks.thrown("no other", Checks.INDEX, () -> Checks.read("arc 10 90;").room(1));
        int[][] due = {{0, 8}, {1, 8}, {10, 8}, {11, 9}, {20, 9}, {21, 11}, {57, 11}, {58, 15}, {99, 15}};
        for (int[] row : due) {
            x.setMargin(row[0]);
            Checks.due("crowded with margin " + row[0], row[1], x.crowded());
        }
        Checks.due("tightest", 3, x.tightest());
        Checks.due("an empty curve is crowded", 1, new CurvedNames().crowded());
        Checks.due("but not without margin", 0, Checks.read("margin 0;").crowded());
        Checks.due("tightest of one", 0, new CurvedNames().tightest());
        Checks.due("the lowest of several", 0, Checks.read("arc 10 90;name ab;").tightest());
        Checks.due("the lowest of several", 1, Checks.read("arc 10 90;name abc;").tightest());
        CurvedNames many = Checks.read("name abcdefgh;name abcdefgh;name abcd;");
        Checks.due("21 rooms", (1 << 21) - 1, many.crowded());
    }

    private static String fillings(CurvedNames x) {
        StringBuilder text = new StringBuilder();
        for (int room = 0; room <= x.setting(1); room++) {
            text.append(x.flourishIn(room)).append(' ');
        }
        text.append('/');
        for (int kind = 0; kind < x.setting(2); kind++) {
            text.append(' ').append(x.stockLeft(kind));
        }
        return text.append(" / ").append(x.worth()).toString();
    }

    private static void promises20To22() {
        CurvedNames x = plate();
        Checks.due("margin 1", "-1 0 2 -1 / 0 2 0 / 14", fillings(x));
        String[] due = {"-1 1 0 -1 / 0 1 1 / 10", "-1 1 0 -1 / 0 1 1 / 10", "-1 -1 0 -1 / 0 2 1 / 5"};
        for (int i = 0; i < due.length; i++) {
            x.setMargin(4 + i);
            Checks.due("margin " + (4 + i), due[i], fillings(x));
        }
        x.setMargin(3);
        Checks.due("margin 3", "-1 0 2 -1 / 0 2 0 / 14", fillings(x));
        x.setMargin(0);
        Checks.due("margin 0", "1 0 2 -1 / 0 1 0 / 19", fillings(x));
        x.setMargin(99);
        Checks.due("worth asked anew", 0, x.worth());
        x.setMargin(4);
        Checks.due("stock asked anew", 0, x.stockLeft(0));
        x.setMargin(6);
        Checks.due("room asked anew", -1, x.flourishIn(1));
        Checks.due("the lowest room of like ones", "0 -1 / 0 / 1",
            fillings(Checks.read("arc 50 90;name d;flourish p 1 1 1;")));
        Checks.due("the greatest worth", "1 1 / 5 3 4 / 18",
            fillings(Checks.read("arc 50 90;name d;flourish p 1 8 5;flourish q 2 9 5;flourish r 1 9 4;")));
        Checks.due("what is out of stock", "1 0 / 4 0 / 17",
            fillings(Checks.read("arc 50 90;name d;flourish p 1 8 5;flourish q 2 9 1;")));
        Checks.due("none fits", "-1 / 9 / 0", fillings(Checks.read("flourish p 1 1 9;")));
        Checks.due("no kinds", "-1 / / 0", fillings(new CurvedNames()));
        Checks.thrown("no such room", Checks.INDEX, () -> x.flourishIn(4));
        Checks.thrown("no such room", Checks.INDEX, () -> x.flourishIn(-1));
        Checks.thrown("no such flourish", Checks.INDEX, () -> x.stockLeft(3));
        Checks.thrown("no such flourish", Checks.INDEX, () -> x.stockLeft(-1));
    }

    private static void promises23And24() {
        CurvedNames x = plate();
        Checks.due("mean", 2062.5, x.meanRoom());
        Checks.due("mean of one", 9000.0, Checks.read("arc 10 90;").meanRoom());
        Checks.due("mean of none", 0.0, new CurvedNames().meanRoom());
        Checks.due("a third", 20500.0 / 3, Checks.read("arc 30 95;name ab;").meanRoom());
        Checks.due("filled", 12000f / 20250f, x.filled());
        Checks.due("over full", 2.0f, Checks.read("arc 10 20;name a;").filled());
        Checks.due("no letters", 0.0f, Checks.read("arc 10 20;").filled());
        Checks.due("no arcs", 0.0f, Checks.read("name abc;").filled());
    }
}
