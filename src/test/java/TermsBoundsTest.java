/** The sentences of Terms 2 to 6, and of the rules behind them, that name a boundary case. */
public final class TermsBoundsTest {
    /** Room 1 has 20 parts and the radius of arc 0; the scratch of the letter ahead of it reaches 100. */
    private static final String NEAR = "arc 80 1 hard 99;arc 60 8 hard 99;name aaaaa;wide a 1;seed 326;sharp 98;";
    /** Room 1 has 1960 parts and the radius of arc 0; the scratch of the letter ahead of it reaches 2000. */
    private static final String FAR = "arc 40 2 hard 99;arc 80 17 hard 99;name aaaaa;wide a 1;seed 23;sharp 98;";
    /** The rooms 2 to 4 have 1280 parts each, room 1 has 1220 and the radius of arc 0. */
    private static final String LIKE = "arc 60 2;arc 60 17;name aaaaa;wide a 1;";
    /** Each stroke slips. */
    private static final String MANY = "arc 50 90 hard 99;name dddddddd;name dddddddd;name dddd;sharp 1;";

    private TermsBoundsTest() {
    }

    public static void main(String[] args) {
        curve();
        lettersAndRooms();
        flourishes();
        strokes();
        draws();
        scratches();
        mends();
        scriptTexts();
        scriptErrors();
        scriptsThatEnd();
        undos();
        undoLeaves();
        exceptions();
        numbersAndSets();
        Checks.end();
    }

    private static void curve() {
        sentence("Term 2", "an arc has 10 times its degrees of them, all arcs together the whole turn", () -> {
            Checks.due("none", 0, new CurvedNames().setting(3));
            Checks.due("the shortest", 10, Checks.read("arc 1 1;").setting(3));
            Checks.due("the longest", 14400, Checks.read("arc 99 180;".repeat(8)).setting(3));
        });
        sentence("Term 2", "an arc has as many parts as its radius times its tenths", () -> {
            Checks.due("none", 0, new CurvedNames().setting(4));
            Checks.due("the fewest", 10, Checks.read("arc 1 1;").setting(4));
            Checks.due("the most", 1425600, Checks.read("arc 99 180;".repeat(8)).setting(4));
        });
        sentence("Term 2", "A turn t lies on the first arc whose end is above t", () -> {
            CurvedNames at = Checks.read("arc 9 10 hard 11;arc 9 10 right hard 12;name a;sharp 1;");
            Checks.due("the centre at the end of arc 0", at.arc(1, 4), at.letter(0, 2));
            Checks.due("is on arc 1", 1, at.letter(0, 7));
            Checks.due("and not on arc 0", 0, at.arc(0, 6));
            Checks.due("as hard as arc 1", 22, at.danger(0));
            CurvedNames ahead = Checks.read("arc 9 11 hard 11;arc 9 9 right hard 12;name a;sharp 1;");
            Checks.due("ahead of the end: arc 0", 0, ahead.letter(0, 7));
            Checks.due("as hard as arc 0", 20, ahead.danger(0));
            CurvedNames behind = Checks.read("arc 9 9;arc 9 11;name a;");
            Checks.due("behind the end: arc 1", 1, behind.letter(0, 7));
        });
        sentence("Term 2", "or on the last one", () -> {
            CurvedNames x = Checks.read("arc 9 10;arc 7 10 right;");
            Checks.due("parts of the whole turn", 1600, x.partsAt(200));
            Checks.due("heading of the whole turn", 0, x.heading(200));
            Checks.due("a centre is never there", 9, Checks.read("arc 1 1;name abcdefgh;name abcdefgh;name abcd;").letter(19, 2));
        });
        sentence("Term 2", "the parts at t are those of the arcs ahead of it, and its radius times the tenths", () -> {
            CurvedNames x = Checks.read("arc 9 10;arc 7 10;arc 5 10;");
            int[][] due = {{0, 0}, {1, 9}, {99, 891}, {100, 900}, {101, 907}, {199, 1593}, {200, 1600}, {201, 1605}, {300, 2100}};
            for (int[] row : due) {
                Checks.due("parts at " + row[0], row[1], x.partsAt(row[0]));
            }
        });
        sentence("Term 2", "it is told from 0 to 3599 (modulo 3600)", () -> {
            CurvedNames left = Checks.read("arc 1 180;arc 1 180;arc 1 180;arc 1 180;arc 1 1;");
            int[][] due = {{0, 0}, {1, 1}, {3599, 3599}, {3600, 0}, {3601, 1}, {7199, 3599}, {7200, 0}};
            for (int[] row : due) {
                Checks.due("left " + row[0], row[1], left.heading(row[0]));
            }
            CurvedNames right = Checks.read("arc 1 180 right;arc 1 180 right;arc 1 180 right;arc 1 180 right;arc 1 1 right;");
            for (int[] row : due) {
                Checks.due("right " + row[0], (3600 - row[1]) % 3600, right.heading(row[0]));
            }
        });
    }

    private static void lettersAndRooms() {
        sentence("Term 3", "the turn (2 * k + 1) * whole turn / (2 * n), rounded down", () -> {
            CurvedNames x = Checks.read("arc 9 1;name abcd;");
            int[] due = {1, 3, 6, 8};
            for (int k = 0; k < 4; k++) {
                Checks.due("centre " + k, due[k], x.letter(k, 2));
            }
            Checks.due("without rounding", 450, Checks.read("arc 9 90;name a;").letter(0, 2));
            CurvedNames full = Checks.read("arc 9 1;name abcdefgh;name abcdefgh;name abcd;");
            Checks.due("0.75", 0, full.letter(1, 2));
            Checks.due("9.75", 9, full.letter(19, 2));
            Checks.due("the longest", 14040, Checks.read("arc 99 180;".repeat(8)
                + "name abcdefgh;name abcdefgh;name abcd;").letter(19, 2));
        });
        sentence("Term 3", "half of them to each side of the parts at its centre", () -> {
            CurvedNames x = Checks.read("arc 9 1;name ab;wide a 1;wide b 99;");
            Checks.due("left of 1", 18 - 500, x.letter(0, 4));
            Checks.due("right of 1", 18 + 500, x.letter(0, 5));
            Checks.due("left of 99", 63 - 49500, x.letter(1, 4));
            Checks.due("right of 99", 63 + 49500, x.letter(1, 5));
        });
        sentence("Term 3", "Room 0 lies from 0 to the left edge of the first letter, .. room n to the end of the curve", () -> {
            CurvedNames x = Checks.read("arc 99 20;arc 50 20;name abc;wide b 7;");
            Checks.due("rooms", "4534 7766 1150 1350", Checks.rooms(x));
        });
        sentence("Term 3", "without letters room 0 is the whole curve", () -> {
            Checks.due("a curve", 19800, Checks.read("arc 99 20;").room(0));
            Checks.due("no curve", 0, new CurvedNames().room(0));
            Checks.thrown("it is the only one", Checks.INDEX, () -> new CurvedNames().room(1));
        });
        sentence("Term 3", "A room may be below 0", () -> {
            Checks.due("all", "-3982 -7955 -3973", Checks.rooms(Checks.read("arc 9 1;name ab;wide ab 8;")));
            CurvedNames x = Checks.read("arc 14 1;arc 58 8;name aaaaa;wide a 1;");
            Checks.due("0", 0, x.room(1));
            x.setRadius(0, 13);
            Checks.due("-1", -1, x.room(1));
        });
        sentence("Term 3", "It is crowded if it is below 100 times the margin", () -> {
            CurvedNames x = Checks.read(NEAR);
            Checks.due("100", 0, x.crowded() & 2);
            x.setRadius(0, 79);
            Checks.due("99", 2, x.crowded() & 2);
            CurvedNames wide = Checks.read(FAR + "margin 20;");
            Checks.due("2000", 0, wide.crowded() & 2);
            wide.setRadius(0, 39);
            Checks.due("1999", 2, wide.crowded() & 2);
            CurvedNames none = Checks.read("arc 14 1;arc 58 8;name aaaaa;wide a 1;margin 0;");
            Checks.due("0", 0, none.crowded() & 2);
            none.setRadius(0, 13);
            Checks.due("-1", 2, none.crowded() & 2);
        });
    }

    private static String fillings(CurvedNames x) {
        StringBuilder text = new StringBuilder();
        for (int room = 0; room <= x.setting(1); room++) {
            text.append(x.flourishIn(room)).append(' ');
        }
        return text.toString();
    }

    private static void flourishes() {
        sentence("Term 3", "from the largest room to the smallest one (the lowest number first of like ones)", () -> {
            CurvedNames x = Checks.read(LIKE + "flourish f 1 1 1;");
            Checks.due("the first of like ones", "-1 0 -1 -1 -1 -1 ", fillings(x));
            x.setRadius(0, 59);
            Checks.due("room 1 is one part smaller", "-1 -1 0 -1 -1 -1 ", fillings(x));
            x.setRadius(0, 61);
            Checks.due("room 1 is one part larger", "-1 0 -1 -1 -1 -1 ", fillings(x));
            Checks.due("three of like ones", "-1 0 0 0 -1 -1 ", fillings(Checks.read(LIKE + "flourish f 1 1 3;")));
            Checks.due("the last is the largest", "1 0 ",
                fillings(Checks.read("arc 50 45;arc 51 45;name d;flourish f 1 2 1;flourish g 1 1 1;")));
        });
        sentence("Term 3", "one of the kind that has the greatest worth, of several the lowest one", () -> {
            String arc = "arc 99 99;";
            Checks.due("greater by 1", "1 ", fillings(Checks.read(arc + "flourish f 1 8 1;flourish g 1 9 1;flourish h 1 8 1;")));
            Checks.due("of like ones", "0 ", fillings(Checks.read(arc + "flourish f 9 9 1;flourish g 1 9 1;flourish h 5 9 1;")));
            Checks.due("of like ones behind", "1 ", fillings(Checks.read(arc + "flourish f 9 8 1;flourish g 1 9 1;flourish h 5 9 1;")));
            Checks.due("not the width, not the stock", "2 ",
                fillings(Checks.read(arc + "flourish f 20 1 9;flourish g 1 1 9;flourish h 5 2 1;")));
        });
        sentence("Term 3", "of all that are in stock still", () -> {
            CurvedNames x = Checks.read(LIKE + "flourish f 1 9 2;flourish g 1 1 1;");
            Checks.due("two, one, none", "-1 0 0 1 -1 -1 ", fillings(x));
            Checks.due("none is left", 0, x.stockLeft(0));
            Checks.due("none is left", 0, x.stockLeft(1));
            Checks.due("9 at most", "-1 0 0 0 0 -1 ", fillings(Checks.read(LIKE + "flourish f 1 9 9;")));
        });
        sentence("Term 3", "and fit: 1000 times the width and 200 times the margin together are at most the room", () -> {
            CurvedNames x = Checks.read("arc 17 2;arc 59 17;name aaaaa;wide a 1;flourish f 1 1 9;");
            Checks.due("1200", 0, x.flourishIn(1));
            x.setRadius(0, 16);
            Checks.due("1199", -1, x.flourishIn(1));
            CurvedNames y = Checks.read(FAR + "flourish f 1 1 9;margin 5;");
            Checks.due("2000", 0, y.flourishIn(1));
            y.setMargin(6);
            Checks.due("2200", -1, y.flourishIn(1));
            CurvedNames z = Checks.read(FAR + "flourish f 2 1 9;margin 0;");
            Checks.due("2000 without margin", 0, z.flourishIn(1));
            z.setRadius(0, 39);
            Checks.due("1999", -1, z.flourishIn(1));
        });
        sentence("Term 3", "It may get none", () -> {
            Checks.due("no kinds", "-1 ", fillings(Checks.read("arc 99 99;")));
            Checks.due("none fits", "-1 ", fillings(Checks.read("arc 1 1;flourish f 1 1 1;")));
            Checks.due("rooms below 0", "-1 -1 ", fillings(Checks.read("arc 1 1;name a;margin 0;flourish f 1 1 9;")));
            Checks.due("what fits into no large one is kept for none", 1,
                Checks.read("arc 1 1;name a;flourish f 1 1 1;").stockLeft(0));
        });
    }

    private static void strokes() {
        sentence("Term 4", "1 and the remainder of its place in the alphabet (a is 0) by 4 as its strokes", () -> {
            CurvedNames x = Checks.read("arc 9 9;name abcdefgh;name ijklmnop;name qrst;");
            CurvedNames y = Checks.read("arc 9 9;name uvwxyz;");
            int[] due = {1, 2, 3, 4, 1, 2, 3, 4, 1, 2, 3, 4, 1, 2, 3, 4, 1, 2, 3, 4, 1, 2, 3, 4, 1, 2};
            for (int place = 0; place < 26; place++) {
                Checks.due("place " + place, due[place], place < 20 ? x.letter(place, 10) : y.letter(place - 20, 10));
            }
            for (int letter = 0; letter < 4; letter++) {
                int before = x.setting(12);
                x.engrave(letter);
                Checks.due("strokes that are done", due[letter], x.setting(12) - before);
            }
        });
        sentence("Term 4", "the graver slips if it is less sharp than the plate is hard (there is a draw only if it is less sharp)", () -> {
            CurvedNames like = Checks.read("arc 9 9 hard 50;name a;seed 0;sharp 50;");
            Checks.due("as sharp", 0, like.engrave(0));
            Checks.due("no draw", 0, like.setting(10));
            CurvedNames less = Checks.read("arc 9 9 hard 51;name a;seed 0;sharp 50;");
            Checks.due("less sharp by 1", 1, less.engrave(0));
            CurvedNames more = Checks.read("arc 9 9 hard 49;name a;seed 0;sharp 50;");
            Checks.due("sharper", 0, more.engrave(0));
            Checks.due("no draw", 0, more.setting(10));
            CurvedNames missed = Checks.read("arc 9 9 hard 51;name a;seed 86;sharp 50;");
            missed.engrave(0);
            Checks.due("one draw without a slip", 86 * 1103515245 + 12345, missed.setting(10));
        });
        sentence("Term 4", "on the arc of the centre of the letter (0 without arcs)", () -> {
            Checks.due("no arcs: no danger", 0, Checks.read("name a;sharp 1;").danger(0));
            Checks.due("no arcs: no slips", 0, Checks.read("name dddddddd;sharp 1;seed 0;").slipsIf());
            CurvedNames x = Checks.read("arc 9 9 hard 0;arc 9 9 hard 99;name aa;sharp 1;");
            Checks.due("on the soft arc", 0, x.engrave(0));
            Checks.due("on the hard arc", 1, x.engrave(1));
        });
        sentence("Term 4", "a draw of 100 is below twice the difference", () -> {
            int[][] due = {{23, 50, 1}, {86, 50, 0}, {24, 50, 0}, {86, 49, 1}, {30, 2, 1}, {178, 2, 0}, {178, 1, 1}, {116, 1, 1}};
            for (int[] row : due) {
                // The hardness is 51, so that twice the difference is 2, 4, 98 or 100; the seeds draw 1, 2, 3, 2, 97, 98, 98, 99.
                CurvedNames x = Checks.read("arc 9 9 hard 51;name a;seed " + row[0] + ";sharp " + row[1] + ";");
                Checks.due("seed " + row[0] + " sharp " + row[1], row[2], x.engrave(0));
            }
        });
        sentence("Term 4", "Behind each stroke the graver becomes less sharp by 1 (not below 0)", () -> {
            int[][] due = {{5, 1}, {4, 0}, {3, 0}, {1, 0}};
            for (int[] row : due) {
                CurvedNames x = Checks.read("arc 9 9 hard 0;name da;sharp " + row[0] + ";");
                x.engrave(0);
                Checks.due("from " + row[0], row[1], x.setting(5));
                x.engrave(1);
                Checks.due("and one more", 0, x.setting(5));
            }
        });
    }

    private static void draws() {
        sentence("Term 4", "x, at first the seed, becomes x * 1103515245 + 12345 (an int)", () -> {
            CurvedNames x = Checks.read("arc 9 9 hard 60;name b;sharp 48;");
            Checks.due("the seed", 1, x.setting(10));
            Checks.due("draws of 38 and 26 do not slip", 0, x.engrave(0));
            Checks.due("below 0", -1770082073, x.setting(10));
            CurvedNames zero = Checks.read("arc 9 9 hard 99;name a;sharp 98;seed 0;");
            zero.engrave(0);
            Checks.due("from 0", 12345 * 1103515245 + 12345, zero.setting(10));
        });
        sentence("Term 4", "the draw is the remainder of x, shifted right by 16 without sign, by n", () -> {
            // The second draw is of 38526, the bits of an x below 0: 26 is not below 26, but below 28.
            Checks.due("not below", 0, Checks.read("arc 9 9 hard 60;name b;sharp 48;").engrave(0));
            Checks.due("below", 1, Checks.read("arc 9 9 hard 61;name b;sharp 48;").engrave(0));
            CurvedNames x = Checks.read("arc 9 9 hard 99;name a;sharp 1;");
            x.engrave(0);
            // 38526 by 20 is 6
            Checks.due("of 20", 700, x.scratch(0, 1));
        });
    }

    private static void scratches() {
        sentence("Term 4", "a scratch that reaches 100 times (1 and another draw, of 20) parts", () -> {
            CurvedNames near = Checks.read(NEAR);
            near.engrave(0);
            Checks.due("a draw of 0", 100, near.scratch(0, 1));
            CurvedNames far = Checks.read(FAR);
            far.engrave(0);
            Checks.due("a draw of 19", 2000, far.scratch(0, 1));
        });
        sentence("Term 4", "if it reaches farther than the room between both (as it is at any time)", () -> {
            int[] nears = {79, 80, 81};
            int[] fars = {39, 40, 41};
            CurvedNames near = Checks.read(NEAR);
            CurvedNames far = Checks.read(FAR);
            near.engrave(0);
            far.engrave(0);
            int[] due = {1, -1, -1};
            for (int i = 0; i < 3; i++) {
                near.setRadius(0, nears[i]);
                Checks.due("reaches 100 of " + near.room(1), due[i], near.scratch(0, 2));
                far.setRadius(0, fars[i]);
                Checks.due("reaches 2000 of " + far.room(1), due[i], far.scratch(0, 2));
            }
            near.setWidth(0, 99);
            Checks.due("a room below 0", 1, near.scratch(0, 2));
        });
        sentence("Term 4", "(as it is at any time)", () -> {
            CurvedNames x = Checks.read(NEAR);
            x.engrave(0);
            x.setRadius(0, 79);
            Checks.due("setting, just behind a change", 1, x.setting(9));
            x.setRadius(0, 80);
            Checks.due("setting, just behind a change", 0, x.setting(9));
            x.setRadius(0, 79);
            Checks.due("letter, just behind a change", 1, x.letter(1, 9));
            x.setRadius(0, 80);
            Checks.due("letter, just behind a change", 0, x.letter(1, 9));
            x.setRadius(0, 79);
            Checks.due("scratch, just behind a change", 1, x.scratch(0, 2));
            x.undo();
            Checks.due("scratch, just behind an undo", -1, x.scratch(0, 2));
            x.setWidth(0, 2);
            Checks.due("setting, just behind a change", 1, x.setting(9));
            x.setWidth(0, 1);
            x.setRadius(1, 99);
            Checks.put(x, "aaaaaaaa");
            Checks.due("room 0 would have -100, and room 1 -6", -100, x.tightestIf());
            Checks.due("not as it would be", 0, x.setting(9));
        });
        sentence("Term 4", "spoils the letter behind its own (if there is one, planned or engraved)", () -> {
            CurvedNames x = Checks.read("arc 1 9 hard 99;name aaa;sharp 1;");
            x.engrave(0);
            Checks.due("a planned one", 1, x.letter(1, 9));
            Checks.due("not the one behind", 0, x.letter(2, 9));
            x.engrave(1);
            Checks.due("an engraved one", 1, x.letter(1, 9));
            Checks.due("another planned one", 1, x.letter(2, 9));
            x.engrave(2);
            Checks.due("none behind the last", -1, x.scratch(2, 2));
            Checks.due("the first is never", 0, x.letter(0, 9));
            Checks.due("two", 2, x.setting(9));
            Checks.due("the only letter", -1, onlyLetter().scratch(0, 2));
        });
        sentence("Term 4", "Scratches are numbered from 0 as they come; those behind one that goes are numbered anew", () -> {
            CurvedNames x = Checks.read("arc 9 9 hard 99;name dd;sharp 1;");
            x.engrave(1);
            x.engrave(0);
            Checks.due("the first", 1, x.scratch(0, 0));
            Checks.due("the last", 0, x.scratch(7, 0));
            Checks.thrown("no 8", Checks.INDEX, () -> x.scratch(8, 0));
            int second = x.scratch(1, 1);
            int last = x.scratch(7, 1);
            x.mend(0);
            Checks.due("0 went", second, x.scratch(0, 1));
            Checks.due("the last is 6", last, x.scratch(6, 1));
            Checks.thrown("no 7", Checks.INDEX, () -> x.scratch(7, 0));
            x.mend(6);
            Checks.due("the last went", 6, x.setting(7));
            Checks.due("those ahead stay", second, x.scratch(0, 1));
        });
    }

    private static CurvedNames onlyLetter() {
        CurvedNames x = Checks.read("arc 1 9 hard 99;name a;sharp 1;");
        x.engrave(0);
        return x;
    }

    private static void mends() {
        sentence("Term 4", "Each letter has mends, 0 at first, at most 3", () -> {
            CurvedNames x = Checks.read("arc 9 9 hard 99;name dd;sharp 1;");
            x.engraveAll();
            for (int mends = 0; mends < 3; mends++) {
                Checks.due("mends", mends, x.letter(0, 11));
                x.mend(0);
            }
            Checks.due("3", 3, x.letter(0, 11));
            Checks.thrown("no 4th by mend", Checks.STATE, () -> x.mend(0));
            Checks.thrown("no 4th by polish", Checks.STATE, () -> x.polish(0));
            Checks.due("3 still", 3, x.letter(0, 11));
            Checks.due("each letter has its own", 0, x.letter(1, 11));
        });
    }

    private static void scriptRight(String text) {
        Checks.due(text, "", Checks.scriptError(text));
    }

    private static void scriptWrong(String text, int code, int position) {
        Checks.due(text, code + " at " + position, Checks.scriptError(text));
    }

    private static void scriptTexts() {
        sentence("Term 5", "script = { command \";\" }", () -> {
            scriptRight("");
            scriptRight(" \n");
            scriptRight("all;all;");
            scriptRight(" repeat \n 2 ( all \n ; ) ; ");
            scriptRight("repeat2(all;engrave0;mend0;polish0;sharpen1;margin1;repeat1(););");
            scriptWrong(";", 1, 0);
            scriptWrong("all", 1, 3);
            scriptWrong("all ", 1, 4);
            scriptWrong("all;;", 1, 4);
            scriptWrong("all 1;", 1, 4);
            scriptWrong("all all;", 1, 4);
            scriptWrong("alls;", 1, 0);
            scriptWrong("al;", 1, 0);
            scriptWrong(")", 1, 0);
            scriptWrong("(all;);", 1, 0);
            scriptWrong("name a;", 1, 0);
            scriptWrong("all;\t", 1, 4);
        });
        sentence("Term 5", "numbers N are 0 to 999", () -> {
            for (String word : new String[] {"engrave", "mend", "polish", "sharpen", "margin"}) {
                int behind = word.length() + 1;
                scriptRight(word + " 0;");
                scriptRight(word + " 999;");
                scriptRight(word + " 000;");
                scriptWrong(word + " 1000;", 1, behind);
                scriptWrong(word + ";", 1, behind - 1);
                scriptWrong(word, 1, behind - 1);
                scriptWrong(word + " a;", 1, behind);
                scriptWrong(word + " 1 1;", 1, behind + 2);
            }
        });
        sentence("Term 5", "The commands are as the methods", () -> {
            CurvedNames x = Checks.read("arc 9 9 hard 99;name dda;sharp 1;");
            Checks.due("engrave", 1, Checks.run(x, "engrave 1;"));
            Checks.due("engraved", "0 1 0", x.letter(0, 8) + " " + x.letter(1, 8) + " " + x.letter(2, 8));
            Checks.due("all", 1, Checks.run(x, "all;"));
            Checks.due("engraved", "1 1 1", x.letter(0, 8) + " " + x.letter(1, 8) + " " + x.letter(2, 8));
            Checks.due("mend", 1, Checks.run(x, "mend 8;"));
            Checks.due("mended", "1 0 8", x.letter(2, 11) + " " + x.letter(2, 12) + " " + x.setting(7));
            Checks.due("polish", 1, Checks.run(x, "polish 0;"));
            Checks.due("polished", "0 1 4", x.letter(0, 8) + " " + x.letter(0, 11) + " " + x.setting(7));
            Checks.due("sharpen", 1, Checks.run(x, "sharpen 98;"));
            Checks.due("sharpened", 98, x.setting(5));
            Checks.due("sharpen", 1, Checks.run(x, "sharpen 2;"));
            Checks.due("at most 99", 99, x.setting(5));
            Checks.due("margin", 2, Checks.run(x, "margin 98;margin 99;"));
            Checks.due("the last one", 99, x.setting(6));
        });
        sentence("Term 5", "of \"repeat\" 1 to 20", () -> {
            scriptRight("repeat 1();");
            scriptRight("repeat 20();");
            scriptRight("repeat 020();");
            scriptWrong("repeat 0();", 2, 7);
            scriptWrong("repeat 21();", 2, 7);
            scriptWrong("repeat 999();", 2, 7);
            scriptWrong("repeat 0001();", 1, 7);
            Checks.due("once", 1, Checks.run(new CurvedNames(), "repeat 1(margin 1;);"));
            Checks.due("20 times", 20, Checks.run(new CurvedNames(), "repeat 20(margin 1;);"));
        });
        sentence("Term 5", "\"repeat\" N \"(\" script \")\"", () -> {
            scriptWrong("repeat", 1, 6);
            scriptWrong("repeat();", 1, 6);
            scriptWrong("repeat 1;", 1, 8);
            scriptWrong("repeat 1 all;", 1, 9);
            scriptWrong("repeat 1)", 1, 8);
            scriptWrong("repeat 1(", 1, 9);
            scriptWrong("repeat 1(all", 1, 12);
            scriptWrong("repeat 1(all);", 1, 12);
            scriptWrong("repeat 1(all;", 1, 13);
            scriptWrong("repeat 1(all;;);", 1, 13);
            scriptWrong("repeat 1(all;)", 1, 14);
            scriptWrong("repeat 1(all;) ", 1, 15);
            scriptWrong("repeat 1(all;)all;", 1, 14);
            scriptWrong("repeat 1(all;););", 1, 15);
            scriptWrong("repeat 1(repeat 1(all;);", 1, 24);
            Checks.due("empty parentheses", 1, Checks.run(new CurvedNames(), "repeat 20();repeat 20(repeat 20(););margin 1;"));
            Checks.due("29 of them", 1, Checks.run(new CurvedNames(), "repeat 20();".repeat(29) + "margin 1;"));
            Checks.due("29 of them", 1, Checks.run(new CurvedNames(), "repeat 20();".repeat(28) + "repeat 1(margin 1;);"));
            Checks.due("28 of them within one", 20, Checks.run(new CurvedNames(), "repeat 20(" + "repeat 20();".repeat(28) + "margin 1;);"));
        });
    }

    private static void scriptErrors() {
        sentence("Term 5", "3: the first word of a \"repeat\" within two others", () -> {
            scriptRight("repeat 1(repeat 1(all;););");
            scriptRight("repeat 1(repeat 1(););repeat 1(repeat 1(););");
            scriptRight("repeat 1(repeat 1();repeat 1(););");
            scriptWrong("repeat 1(repeat 1(repeat 1(););", 3, 18);
            scriptWrong("repeat 1(repeat 1(all; repeat", 3, 23);
            scriptWrong("repeat 1(repeat 1();repeat 1(repeat", 3, 29);
            scriptWrong("repeat 1(repeat 1(repeats", 1, 18);
            CurvedNames x = new CurvedNames();
            Checks.put(x, "repeat 1(repeat 1(");
            Checks.thrown("two are open", Checks.ILLEGAL, x::runScript);
            Checks.due("none is open in the next script", 4, Checks.run(x, "repeat 2(repeat 2(margin 1;););"));
            Checks.put(x, "repeat 1(repeat 1(");
            Checks.thrown("two are open", Checks.ILLEGAL, x::runScript);
            Checks.put(x, ");");
            Checks.thrown("none is open in the next script", Checks.ILLEGAL, x::runScript);
            Checks.due("at its first byte", 0, x.errorPosition());
        });
        sentence("Term 5", "5: the first word of a 31st command of the text (\"repeat\" counts as one, too)", () -> {
            scriptRight("all;".repeat(30));
            scriptWrong("all;".repeat(31), 5, 120);
            scriptWrong("all;".repeat(30) + "engrave", 5, 120);
            scriptRight("all;".repeat(29) + "repeat 1();");
            scriptWrong("all;".repeat(30) + "repeat", 5, 120);
            scriptRight("repeat 1(" + "all;".repeat(29) + ");");
            scriptWrong("repeat 1(" + "all;".repeat(30) + ");", 5, 125);
            scriptRight("repeat 1(repeat 1(" + "all;".repeat(28) + "););");
            scriptWrong("repeat 1(repeat 1(" + "all;".repeat(28) + ");all;);", 5, 132);
            scriptWrong("repeat 20();".repeat(30) + "all", 5, 360);
            scriptRight("repeat 20();".repeat(30));
            CurvedNames x = new CurvedNames();
            Checks.due("30 of each script", 30, Checks.run(x, "margin 1;".repeat(30)));
            Checks.due("30 of each script", 30, Checks.run(x, "margin 1;".repeat(30)));
        });
        sentence("Term 5", "if several codes apply at one token, the lowest one", () -> {
            scriptWrong("repeat 1(repeat 1(" + "all;".repeat(28) + "repeat", 3, 130);
            scriptWrong("all;".repeat(30) + "foo;", 1, 120);
            scriptWrong("all;".repeat(29) + "all all;", 1, 120);
            scriptWrong("repeat 1(repeat 1(all repeat", 1, 22);
            scriptWrong("repeat 9999();", 1, 7);
            scriptWrong("repeat 0;", 2, 7);
        });
    }

    private static void scriptsThatEnd() {
        sentence("Term 5", "A script ends as a whole at a command whose method would throw an exception", () -> {
            String[] throwing = {"engrave 2;", "engrave 0;", "mend 4;", "polish 1;", "polish 2;", "sharpen 0;", "sharpen 100;", "margin 100;"};
            for (String command : throwing) {
                CurvedNames x = scratched();
                Checks.due(command, 1, Checks.run(x, "margin 7;" + command + "margin 9;"));
                Checks.due("what was done stays", 7, x.setting(6));
                Checks.due("in parentheses", 2, Checks.run(x, "margin 3;repeat 2(repeat 2(margin 8;" + command + "););margin 9;"));
                Checks.due("nothing behind it", 8, x.setting(6));
                Checks.due("an error is none of these", 0, x.errorCode());
            }
            String[] answering = {"engrave 1;", "all;", "mend 3;", "polish 0;", "sharpen 1;", "sharpen 99;", "margin 0;", "margin 99;"};
            for (String command : answering) {
                CurvedNames x = scratched();
                Checks.due(command, 3, Checks.run(x, "margin 7;" + command + "margin 9;"));
            }
            CurvedNames x = scratched();
            Checks.due("all, but none is planned", 1, Checks.run(x, "all;all;margin 9;"));
            Checks.due("no arcs", 0, Checks.run(Checks.read("name a;"), "all;margin 9;"));
            Checks.due("no arcs", 0, Checks.run(Checks.read("name a;"), "engrave 0;margin 9;"));
            Checks.due("4th mend", 3, Checks.run(scratched(), "repeat 4(mend 0;);margin 9;"));
            Checks.due("a polish is one, too", 3, Checks.run(scratched(), "mend 0;mend 0;polish 0;engrave 9;"));
            Checks.due("more than 40 scratches", 2, Checks.run(Checks.read(MANY), "all;mend 0;all;"));
            Checks.due("more than 40 scratches", 1, Checks.run(Checks.read(MANY), "all;engrave 19;"));
        });
        sentence("Term 5", "It also ends early when 40 commands (\"repeat\" not counted) were done", () -> {
            CurvedNames x = new CurvedNames();
            Checks.due("39", 39, Checks.run(x, "repeat 19(margin 1;margin 2;);margin 3;"));
            Checks.due("39", 3, x.setting(6));
            Checks.due("40", 40, Checks.run(x, "repeat 19(margin 1;margin 2;);margin 3;margin 4;"));
            Checks.due("40", 4, x.setting(6));
            Checks.due("not 41", 40, Checks.run(x, "repeat 19(margin 1;margin 2;);margin 3;margin 5;margin 6;"));
            Checks.due("not 41", 5, x.setting(6));
            Checks.due("all in parentheses", 40, Checks.run(x, "repeat 20(repeat 2(margin 1;);margin 2;);margin 9;"));
            Checks.due("the 40th", 1, x.setting(6));
            Checks.due("in the middle of a repeat", 40, Checks.run(x, "repeat 3(repeat 7(margin 1;margin 2;);margin 3;);"));
            Checks.due("the 40th", 2, x.setting(6));
            Checks.due("repeats are not counted", 30, Checks.run(x, "repeat 15(repeat 1(margin 1;);repeat 1(margin 2;););"));
        });
    }

    /** Letter 0 has 4 scratches, letter 1 is planned. */
    private static CurvedNames scratched() {
        CurvedNames x = Checks.read("arc 9 9 hard 99;name dd;sharp 1;");
        x.engrave(0);
        return x;
    }

    private static void undos() {
        sentence("Term 6", "the latest first; the latest 6 of them are kept", () -> {
            CurvedNames x = new CurvedNames();
            for (int margin = 10; margin <= 15; margin++) {
                x.setMargin(margin);
                Checks.due("kept", margin - 9, x.setting(13));
            }
            x.setMargin(16);
            Checks.due("6 at most", 6, x.setting(13));
            for (int margin = 15; margin >= 10; margin--) {
                Checks.due("can still be undone", margin - 10, x.undo());
                Checks.due("as before", margin, x.setting(6));
            }
            Checks.due("the first is forgotten", -1, x.undo());
            Checks.due("the first is forgotten", 10, x.setting(6));
        });
        sentence("Term 6", "each call of runScript() (as a whole, also if no command was done)", () -> {
            CurvedNames x = new CurvedNames();
            Checks.run(x, "");
            Checks.due("an empty script", 1, x.setting(13));
            Checks.run(x, "engrave 0;");
            Checks.due("a script that ends at once", 2, x.setting(13));
            Checks.run(x, "margin 5;margin 6;sharpen 9;");
            Checks.due("three commands", 3, x.setting(13));
            Checks.due("undone as a whole", 2, x.undo());
            Checks.due("margin", 1, x.setting(6));
            Checks.due("sharp", 50, x.setting(5));
        });
        sentence("Term 6", "that was done without an exception can be undone", () -> {
            CurvedNames same = Checks.read("arc 9 9;sharp 99;");
            same.setMargin(1);
            Checks.due("also if nothing became other: margin", 1, same.setting(13));
            same.setRadius(0, 9);
            Checks.due("also if nothing became other: radius", 2, same.setting(13));
            same.setWidth(0, 4);
            Checks.due("also if nothing became other: width", 3, same.setting(13));
            same.sharpen(1);
            Checks.due("also if nothing became other: sharp", 4, same.setting(13));
            CurvedNames x = new CurvedNames();
            x.setMargin(5);
            Checks.thrown("an exception", Checks.ILLEGAL, () -> x.setMargin(100));
            Checks.put(x, "foo");
            Checks.thrown("an exception", Checks.ILLEGAL, x::runScript);
            Checks.due("is not kept", 1, x.setting(13));
            x.save();
            x.report();
            Checks.due("no others are kept", 1, x.setting(13));
        });
    }

    private static void undoLeaves() {
        sentence("Term 6", "All is as before it then but the report, the buffer, the error and what is saved", () -> {
            CurvedNames x = Checks.read("arc 9 9 hard 99;name d;sharp 1;");
            x.engrave(0);
            Checks.due("a report", "D****", Checks.report(x));
            x.save();
            Checks.put(x, "foo");
            Checks.thrown("an error", Checks.ILLEGAL, x::runScript);
            Checks.put(x, "name xyz;");
            x.undo();
            Checks.due("planned again", 0, x.letter(0, 8));
            Checks.due("scratches", 0, x.setting(7));
            Checks.due("x", 1, x.setting(10));
            Checks.due("sharp", 1, x.setting(5));
            Checks.due("slips", 0, x.setting(11));
            Checks.due("strokes", 0, x.setting(12));
            Checks.due("the report", (int) 'D', x.reportByte(0));
            Checks.due("the report", (int) '*', x.reportByte(4));
            Checks.due("the error", 1, x.errorCode());
            Checks.due("its position", 0, x.errorPosition());
            Checks.due("what is saved", 4, x.restore());
            Checks.due("the buffer", 3, x.readText());
        });
        sentence("Term 6", "readText() and restore() forget them", () -> {
            CurvedNames x = new CurvedNames();
            Checks.thrown("a restore that is refused does not", Checks.STATE, x::restore);
            x.setMargin(5);
            Checks.thrown("a restore that is refused does not", Checks.STATE, x::restore);
            Checks.put(x, "foo");
            Checks.thrown("a text that is refused does not", Checks.ILLEGAL, x::readText);
            Checks.due("kept", 1, x.setting(13));
            x.save();
            Checks.due("save does not", 1, x.setting(13));
            x.restore();
            Checks.due("restore", 0, x.setting(13));
            Checks.due("restore", -1, x.undo());
            x.setMargin(6);
            x.readText();
            Checks.due("readText", 0, x.setting(13));
            Checks.due("readText", -1, x.undo());
        });
    }

    private static void exceptions() {
        sentence("Terms", "If several exceptions apply to a call, the one that is listed first is thrown", () -> {
            CurvedNames x = new CurvedNames();
            Checks.thrown("arc", Checks.INDEX, () -> x.arc(0, 7));
            Checks.thrown("letter", Checks.INDEX, () -> x.letter(0, 13));
            Checks.thrown("scratch", Checks.INDEX, () -> x.scratch(0, 3));
            Checks.thrown("engrave", Checks.INDEX, () -> x.engrave(0));
            Checks.thrown("mend", Checks.INDEX, () -> x.mend(0));
            Checks.thrown("polish", Checks.INDEX, () -> x.polish(0));
            Checks.thrown("setRadius", Checks.INDEX, () -> x.setRadius(0, 0));
            CurvedNames full = Checks.read(MANY);
            full.engraveAll();
            Checks.thrown("engrave", Checks.INDEX, () -> full.engrave(20));
            full.mend(0);
            full.mend(0);
            full.mend(0);
            Checks.thrown("polish", Checks.INDEX, () -> full.polish(-1));
            Checks.thrown("mend", Checks.INDEX, () -> full.mend(41));
        });
        sentence("Terms", "A call that throws an exception changes nothing", () -> {
            Twins.refused(Checks.INDEX, Twins::used, x -> x.arc(2, 0), x -> x.letter(3, 0), x -> x.scratch(3, 0),
                x -> x.flourishLetter(2, 0), x -> x.room(4), x -> x.flourishIn(4), x -> x.stockLeft(2), x -> x.danger(3),
                x -> x.engrave(3), x -> x.mend(3), x -> x.polish(3), x -> x.setRadius(2, 5), x -> x.reportByte(99));
            Twins.refused(Checks.ILLEGAL, Twins::used, x -> x.setting(14), x -> x.arc(0, 7), x -> x.letter(0, 13),
                x -> x.scratch(0, 3), x -> x.partsAt(501), x -> x.heading(501), x -> x.turnAt(41001), x -> x.mostWidth(26),
                x -> x.sharpen(0), x -> x.setMargin(100), x -> x.setRadius(0, 100), x -> x.setWidth(0, 100), x -> x.truncate(18));
            Twins.refused(Checks.STATE, Twins::used, x -> x.engrave(0), x -> x.polish(1));
        });
    }

    private static void numbersAndSets() {
        sentence("Terms", "numbers of existing ones (rooms are 0 to the number of letters); otherwise IndexOutOfBoundsException", () -> {
            for (int number : new int[] {-1, Integer.MIN_VALUE, Integer.MAX_VALUE, 1000000}) {
                Twins.refused(Checks.INDEX, Twins::used, x -> x.arc(number, 0), x -> x.letter(number, 0),
                    x -> x.scratch(number, 0), x -> x.flourishLetter(number, 0), x -> x.room(number), x -> x.flourishIn(number),
                    x -> x.stockLeft(number), x -> x.danger(number), x -> x.engrave(number), x -> x.mend(number),
                    x -> x.polish(number), x -> x.setRadius(number, 5), x -> x.reportByte(number));
            }
            CurvedNames x = Twins.used();
            Checks.due("the last arc", 70, x.arc(1, 0));
            Checks.due("the last letter", 1, x.letter(2, 0));
            Checks.due("the last scratch", 0, x.scratch(2, 0));
            Checks.due("the last kind", (int) 'h', x.flourishLetter(1, 0));
            Checks.due("the last kind fills a room", 0, x.stockLeft(1));
            Checks.due("the last room", x.room(3), 41000 - x.letter(2, 5));
        });
        sentence("Terms", "Sets are bit masks in which bit k stands for number k", () -> {
            Checks.due("the empty set", 0, Checks.read("arc 99 99;name a;").crowded());
            Checks.due("room 0", 1, new CurvedNames().crowded());
            Checks.due("all of 21", (1 << 21) - 1, Checks.read("name abcdefgh;name abcdefgh;name abcd;").crowded());
            Checks.due("the last one", 1 << 20, Checks.read("arc 99 180;".repeat(7) + "arc 1 90;"
                + "name aaaaaaaa;name aaaaaaaa;name aaaa;wide a 1;").crowded() & 1 << 20);
        });
        sentence("Terms", "Nothing changes by asking what would be", () -> {
            Twins.only(Twins::used, x -> x.danger(1), CurvedNames::slipsIf, CurvedNames::leastSharp, CurvedNames::leastGrowth,
                x -> x.mostWidth(0), x -> x.mostWidth(25), CurvedNames::spare, CurvedNames::crowded, CurvedNames::tightest,
                CurvedNames::worth, x -> x.stockLeft(0), x -> x.flourishIn(0), x -> x.room(0));
        });
        sentence("Terms", "NONE = -1: There is no such value", () -> {
            Checks.due("NONE", -1, CurvedNames.NONE);
            CurvedNames x = Checks.read("name d;");
            Checks.due("arc of a centre", -1, x.letter(0, 7));
            Checks.due("flourish", -1, x.flourishIn(0));
            Checks.due("spare", -1, x.spare());
            Checks.due("undo", -1, x.undo());
            Checks.due("error", -1, x.errorPosition());
        });
    }

    private static void sentence(String where, String words, Runnable test) {
        Checks.sentence(where, words, test);
    }
}
