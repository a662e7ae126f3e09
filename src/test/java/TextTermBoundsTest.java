/** The sentences of Term 1, the text, that name a boundary case. */
public final class TextTermBoundsTest {
    private static final String EIGHT_ARCS = "arc 1 1;".repeat(8);
    private static final String TWENTY_LETTERS = "name abcdefgh;name abcdefgh;name abcd;";
    private static final String SIX_KINDS = kinds();

    private TextTermBoundsTest() {
    }

    public static void main(String[] args) {
        buffer();
        grammar();
        words();
        numbers();
        signsAndBlanks();
        arcs();
        names();
        widths();
        flourishes();
        seedSharpMargin();
        positions();
        order();
        Checks.end();
    }

    private static String kinds() {
        StringBuilder text = new StringBuilder();
        for (char c = 'a'; c <= 'f'; c++) {
            text.append("flourish ").append(c).append(" 1 1 1;");
        }
        return text.toString();
    }

    private static void sentence(String words, Runnable test) {
        Checks.sentence("Term 1", words, test);
    }

    private static void right(String text) {
        Checks.due(text, "", Checks.textError(text));
    }

    private static void wrong(String text, int code, int position) {
        Checks.due(text, code + " at " + position, Checks.textError(text));
    }

    /** Both ends of a range are let through, and what is next to them is refused. */
    private static void range(String ahead, int least, int most, String behind) {
        right(ahead + least + behind);
        right(ahead + most + behind);
        if (least > 0) {
            wrong(ahead + (least - 1) + behind, 2, ahead.length());
        }
        wrong(ahead + (most + 1) + behind, most < 999 ? 2 : 1, ahead.length());
    }

    private static void buffer() {
        sentence("a buffer of at most 500 bytes", () -> {
            String full = "name a" + " ".repeat(493) + ";";
            Checks.due("500 bytes", 500, full.length());
            Checks.due("its last byte is read", 1, Checks.read(full).setting(1));
            wrong("name a" + " ".repeat(494), 1, 500);
            CurvedNames x = new CurvedNames();
            Checks.put(x, full);
            Checks.thrown("501 and more", Checks.STATE, () -> x.feed(0, 0, 0, 0, 0));
        });
    }

    private static void grammar() {
        sentence("text = { statement \";\" }", () -> {
            right("");
            right(" ");
            right("name a;");
            right("name a;name a;");
            wrong(";", 1, 0);
            wrong("name a", 1, 6);
            wrong("name a;;", 1, 7);
            wrong("name a name a;", 1, 7);
            wrong("name a;name a", 1, 13);
        });
        sentence("\"arc\" N N [ \"right\" ] [ \"hard\" N ]", () -> {
            right("arc 1 1;arc 1 1 right;arc 1 1 hard 1;arc 1 1 right hard 1;");
            wrong("arc;", 1, 3);
            wrong("arc 1;", 1, 5);
            wrong("arc 1 1 1;", 1, 8);
            wrong("arc 1 1 right right;", 1, 14);
            wrong("arc 1 1 hard 1 right;", 1, 15);
            wrong("arc 1 1 hard;", 1, 12);
            wrong("arc 1 1 hard 1 hard 1;", 1, 15);
            wrong("arc 1 1 right 1;", 1, 14);
            wrong("arc 1 1 left;", 1, 8);
            wrong("arc right 1;", 1, 4);
        });
        sentence("\"name\" WORD | \"wide\" WORD N | \"flourish\" NAME N N N", () -> {
            wrong("name;", 1, 4);
            wrong("name a b;", 1, 7);
            wrong("name a 1;", 1, 7);
            wrong("name 1;", 1, 5);
            wrong("wide;", 1, 4);
            wrong("wide 1;", 1, 5);
            wrong("wide a;", 1, 6);
            wrong("wide a 1 1;", 1, 9);
            wrong("wide a b 1;", 1, 7);
            wrong("flourish;", 1, 8);
            wrong("flourish 1 1 1;", 1, 9);
            wrong("flourish a;", 1, 10);
            wrong("flourish a 1;", 1, 12);
            wrong("flourish a 1 1;", 1, 14);
            wrong("flourish a 1 1 1 1;", 1, 17);
        });
        sentence("\"seed\" N | \"sharp\" N | \"margin\" N", () -> {
            for (String word : new String[] {"seed", "sharp", "margin"}) {
                int length = word.length();
                wrong(word, 1, length);
                wrong(word + ";", 1, length);
                wrong(word + " a;", 1, length + 1);
                wrong(word + " 1 1;", 1, length + 3);
                wrong(word + " 1 a;", 1, length + 3);
            }
        });
    }

    private static void words() {
        sentence("A word is a maximal run of letters a to z", () -> {
            CurvedNames x = Checks.read("name az;");
            Checks.due("a", 0, x.letter(0, 0));
            Checks.due("z", 25, x.letter(1, 0));
            for (String sign : new String[] {"`", "{", "@", "A", "Z", "[", "\u00e0", "_"}) {
                wrong("name " + sign + ";", 1, 5);
                wrong("name a" + sign + ";", 1, 6);
                wrong("name a" + sign + "b;", 1, 6);
                wrong("wide " + sign + " 1;", 1, 5);
                wrong("flourish " + sign + " 1 1 1;", 1, 9);
            }
            wrong("namea;", 1, 0);
            wrong("arcs 1 1;", 1, 0);
            wrong("ar 1 1;", 1, 0);
            wrong("brc 1 1;", 1, 0);
            wrong("ard 1 1;", 1, 0);
            wrong("bame a;", 1, 0);
            wrong("namf a;", 1, 0);
            wrong("xide a 1;", 1, 0);
            wrong("glourish a 1 1 1;", 1, 0);
            wrong("teed 1;", 1, 0);
            wrong("tharp 1;", 1, 0);
            wrong("nargin 1;", 1, 0);
            wrong("arc 1 1 sight;", 1, 8);
            wrong("arc 1 1 bard 1;", 1, 8);
            wrong("arc 1 1 rights;", 1, 8);
        });
        sentence("at most 8 of them", () -> {
            Checks.due("8", 8, Checks.read("name abcdefgh;").setting(1));
            wrong("name abcdefghi;", 1, 5);
            right("wide abcdefgh 1;");
            wrong("wide abcdefghi 1;", 1, 5);
            Checks.due("8", (int) 'h', Checks.read("flourish abcdefgh 1 1 1;").flourishLetter(0, 7));
            wrong("flourish abcdefghi 1 1 1;", 1, 9);
            wrong("flourishx a 1 1 1;", 1, 0);
            wrong("arc 1 1 righthard 1;", 1, 8);
            wrong("name " + "a".repeat(16) + ";", 1, 5);
        });
        sentence("a NAME and a WORD are any words", () -> {
            for (String word : new String[] {"arc", "right", "hard", "name", "wide", "flourish", "seed", "margin", "a"}) {
                right("name " + word + ";wide " + word + " 1;flourish " + word + " 1 1 1;");
            }
        });
    }

    private static void numbers() {
        sentence("A number N is a maximal run of digits", () -> {
            Checks.due("0 and 9", 90, Checks.read("seed 90;").setting(10));
            for (String sign : new String[] {"/", ":", ".", "-", "\u00b2"}) {
                wrong("seed " + sign + ";", 1, 5);
                wrong("seed 1" + sign + ";", 1, 6);
                wrong("seed 1" + sign + "1;", 1, 6);
                wrong("arc " + sign + " 1;", 1, 4);
                wrong("wide a" + sign + ";", 1, 6);
            }
            wrong("arc 11;", 1, 6);
            Checks.due("one number", 123, Checks.read("seed 123;").setting(10));
        });
        sentence("at most 3 of them", () -> {
            right("seed 000;");
            Checks.due("zeros count", 9, Checks.read("seed 009;").setting(10));
            Checks.due("zeros count", 80, Checks.read("arc 099 080;").arc(0, 1));
            wrong("seed 0009;", 1, 5);
            wrong("arc 0001 1;", 1, 4);
            wrong("arc 1000 1;", 1, 4);
            wrong("seed 12345678901234567890;", 1, 5);
        });
    }

    private static void signsAndBlanks() {
        sentence("The other tokens are the single characters ; ( and )", () -> {
            for (String sign : new String[] {"(", ")", "'", "*", ":", "<"}) {
                wrong(sign, 1, 0);
                wrong("name a" + sign, 1, 6);
                wrong("name " + sign + ";", 1, 5);
            }
        });
        sentence("Spaces and line feeds may stand before, between and behind tokens", () -> {
            Checks.due("all over", 1, Checks.read(" \n name \n a \n ; \n arc\n5\n6 \nright\nhard 7\n;\n ").setting(1));
            for (int blank : new int[] {0, 8, 9, 11, 12, 13, 31, 33, 160, 133}) {
                char sign = (char) blank;
                wrong(sign + "name a;", 1, 0);
                wrong("name" + sign + "a;", 1, 4);
                wrong("name a" + sign + ";", 1, 6);
                wrong("name a;" + sign, 1, 7);
            }
        });
        sentence("a word and a number side by side need nothing between them", () -> {
            CurvedNames x = Checks.read("arc5 6hard7;arc5 6right;name a;wide a9;flourish f1 1 1;seed8;sharp9;margin7;");
            Checks.due("hard", 7, x.arc(0, 3));
            Checks.due("right", 1, x.arc(1, 2));
            Checks.due("wide", 9000, x.letter(0, 1));
            Checks.due("seed", 8, x.setting(10));
            wrong("namea;", 1, 0);
            wrong("arc 1 1 right1;", 1, 13);
        });
        sentence("Every other byte, a longer run of letters and a longer run of digits is an invalid token", () -> {
            for (int b = 0; b < 256; b++) {
                char sign = (char) b;
                boolean isBlank = b == 32 || b == 10;
                boolean isLetter = b >= 'a' && b <= 'z';
                String due = isBlank || isLetter ? "" : b == ';' ? "1 at 7" : "1 at 6";
                Checks.due("byte " + b, due, Checks.textError("name a" + sign + ";"));
                Checks.due("byte " + b + " alone", isBlank ? "" : "1 at 0", Checks.textError("" + sign));
            }
        });
    }

    private static void arcs() {
        sentence("an arc, at most 8", () -> {
            Checks.due("8", 8, Checks.read(EIGHT_ARCS).setting(0));
            wrong(EIGHT_ARCS + "arc 1 1;", 5, 64);
            wrong(EIGHT_ARCS + "arc", 5, 64);
            wrong(EIGHT_ARCS + "arc 0;", 5, 64);
            right(EIGHT_ARCS + "name a;");
        });
        sentence("numbered from 0, one behind the other", () -> {
            CurvedNames x = Checks.read("arc 11 1;arc 12 2;arc 13 3;arc 14 4;arc 15 5;arc 16 6;arc 17 7;arc 18 8;");
            for (int arc = 0; arc < 8; arc++) {
                Checks.due("radius", 11 + arc, x.arc(arc, 0));
                Checks.due("degrees", 1 + arc, x.arc(arc, 1));
            }
        });
        sentence("its radius (1 to 99)", () -> {
            range("arc ", 1, 99, " 1;");
            Checks.due("1", 1, Checks.read("arc 1 9;").arc(0, 0));
            Checks.due("99", 99, Checks.read("arc 99 9;").arc(0, 0));
        });
        sentence("its degrees (1 to 180)", () -> {
            range("arc 1 ", 1, 180, ";");
            Checks.due("1", 1, Checks.read("arc 9 1;").arc(0, 1));
            Checks.due("180", 180, Checks.read("arc 9 180;").arc(0, 1));
        });
        sentence("\"right\" if it bends to the right (otherwise to the left)", () -> {
            Checks.due("right", 1, Checks.read("arc 1 1 right;").arc(0, 2));
            Checks.due("left", 0, Checks.read("arc 1 1;").arc(0, 2));
            Checks.due("left behind right", 0, Checks.read("arc 1 1 right;arc 1 1;").arc(1, 2));
        });
        sentence("how hard the plate is there (0 to 99; 30 without it)", () -> {
            range("arc 1 1 hard ", 0, 99, ";");
            Checks.due("0", 0, Checks.read("arc 1 1 hard 0;").arc(0, 3));
            Checks.due("99", 99, Checks.read("arc 1 1 right hard 99;").arc(0, 3));
            Checks.due("without it", 30, Checks.read("arc 1 1 hard 9;arc 1 1;").arc(1, 3));
        });
    }

    private static void names() {
        sentence("at most 20 letters in all", () -> {
            Checks.due("20", 20, Checks.read(TWENTY_LETTERS).setting(1));
            wrong(TWENTY_LETTERS + "name a;", 5, TWENTY_LETTERS.length() + 5);
            wrong("name abcdefgh;name abcdefgh;name abcde;", 5, 33);
            wrong("name abcdefgh;name abcdefgh;name abc;name ab;", 5, 42);
            right("name abcdefgh;name abcdefgh;name abc;name a;");
            right(TWENTY_LETTERS + "wide abcdefgh 9;");
        });
        sentence("numbered from 0", () -> {
            CurvedNames x = Checks.read(TWENTY_LETTERS);
            Checks.due("first", 0, x.letter(0, 0));
            Checks.due("of the second word", 0, x.letter(8, 0));
            Checks.due("last", 3, x.letter(19, 0));
            Checks.thrown("no other", Checks.INDEX, () -> x.letter(20, 0));
        });
    }

    private static void widths() {
        sentence("the width of all letters of the WORD (1 to 99", () -> {
            range("wide a ", 1, 99, ";");
            CurvedNames x = Checks.read("name azm;wide az 99;wide m 1;");
            Checks.due("first of it", 99000, x.letter(0, 1));
            Checks.due("last of it", 99000, x.letter(1, 1));
            Checks.due("1", 1000, x.letter(2, 1));
            Checks.due("all eight", 7, Checks.read("wide abcdefgh 7;").setWidth(7, 1));
        });
        sentence("4 for a letter without it", () -> {
            CurvedNames x = Checks.read("name abc;wide b 9;");
            Checks.due("a", 4000, x.letter(0, 1));
            Checks.due("c", 4000, x.letter(2, 1));
            Checks.due("not in the name", 4, x.setWidth(25, 1));
        });
        sentence("the last one counts", () -> {
            Checks.due("narrower", 3, Checks.read("wide a 9;wide ba 3;").setWidth(0, 1));
            Checks.due("wider", 9, Checks.read("wide aa 3;wide a 9;").setWidth(0, 1));
            Checks.due("ahead of the name", 9000, Checks.read("wide a 9;name a;").letter(0, 1));
        });
    }

    private static void flourishes() {
        sentence("a kind of flourishes, at most 6", () -> {
            Checks.due("6", 6, Checks.read(SIX_KINDS).setting(2));
            wrong(SIX_KINDS + "flourish g 1 1 1;", 5, SIX_KINDS.length());
            wrong(SIX_KINDS + "flourish", 5, SIX_KINDS.length());
            right(SIX_KINDS + "name a;");
        });
        sentence("numbered from 0", () -> {
            CurvedNames x = Checks.read(SIX_KINDS);
            for (int kind = 0; kind < 6; kind++) {
                Checks.due("kind " + kind, 'a' + kind, x.flourishLetter(kind, 0));
            }
        });
        sentence("all of different names", () -> {
            wrong("flourish a 1 1 1;flourish a 2 2 2;", 3, 26);
            wrong("flourish abcdefgh 1 1 1;flourish abcdefgh 2 2 2;", 3, 33);
            wrong("flourish a 1 1 1;flourish b 1 1 1;flourish b 2 2 2;", 3, 43);
            wrong("flourish a 1 1 1;flourish b 1 1 1;flourish a 2 2 2;", 3, 43);
            right("flourish a 1 1 1;flourish aa 1 1 1;flourish b 1 1 1;");
            right("flourish abcdefgh 1 1 1;flourish abcdefgi 1 1 1;flourish abcdefg 1 1 1;");
            right("flourish bbcdefgh 1 1 1;flourish abcdefgh 1 1 1;");
        });
        sentence("its width (1 to 99)", () -> {
            range("flourish a ", 1, 99, " 1 1;");
            CurvedNames x = Checks.read("arc 99 101;margin 0;flourish a 99 1 1;");
            Checks.due("it fits into 99990", 0, x.flourishIn(0));
            x.setRadius(0, 98);
            Checks.due("but not into 98980", -1, x.flourishIn(0));
            Checks.due("1", 0, Checks.read("arc 10 10;margin 0;flourish a 1 1 1;").flourishIn(0));
        });
        sentence("its worth (1 to 99)", () -> {
            range("flourish a 1 ", 1, 99, " 1;");
            Checks.due("1", 1, Checks.read("arc 99 9;flourish a 1 1 1;").worth());
            Checks.due("99", 99, Checks.read("arc 99 9;flourish a 1 99 1;").worth());
        });
        sentence("and its stock (1 to 9)", () -> {
            range("flourish a 1 1 ", 1, 9, ";");
            Checks.due("1", 1, Checks.read("flourish a 1 1 1;").stockLeft(0));
            Checks.due("9", 9, Checks.read("flourish a 1 1 9;").stockLeft(0));
        });
    }

    private static void seedSharpMargin() {
        sentence("the seed of the draws (0 to 999; 1 without it)", () -> {
            range("seed ", 0, 999, ";");
            Checks.due("0", 0, Checks.read("seed 0;").setting(10));
            Checks.due("999", 999, Checks.read("seed 999;").setting(10));
            Checks.due("without it", 1, Checks.read("sharp 9;margin 9;").setting(10));
        });
        sentence("how sharp the graver is (1 to 99; 50 without it)", () -> {
            range("sharp ", 1, 99, ";");
            Checks.due("1", 1, Checks.read("sharp 1;").setting(5));
            Checks.due("99", 99, Checks.read("sharp 99;").setting(5));
            Checks.due("without it", 50, Checks.read("seed 9;margin 9;").setting(5));
        });
        sentence("the margin (0 to 99; 1 without it)", () -> {
            range("margin ", 0, 99, ";");
            Checks.due("0", 0, Checks.read("margin 0;").setting(6));
            Checks.due("99", 99, Checks.read("margin 99;").setting(6));
            Checks.due("without it", 1, Checks.read("seed 9;sharp 9;").setting(6));
        });
        sentence("each of the three may stand once, anywhere", () -> {
            right("seed 1;sharp 1;margin 1;");
            right("margin 1;arc 1 1;sharp 1;name a;seed 1;");
            right("name seed;wide sharp 1;flourish margin 1 1 1;seed 1;sharp 1;margin 1;");
            wrong("seed 1;seed 1;", 3, 7);
            wrong("sharp 1;sharp 1;", 3, 8);
            wrong("margin 1;margin 1;", 3, 9);
            wrong("seed 1;name a;seed", 3, 14);
            wrong("sharp 1;seed 1;margin 1;sharp 0;", 3, 24);
            wrong("margin 1;arc 1 1; margin 100;", 3, 18);
            CurvedNames x = Checks.read("seed 2;sharp 2;margin 2;");
            Checks.put(x, "seed 3;sharp 3;margin 3;");
            Checks.due("once in each text", 0, x.readText());
            Checks.due("of the second one", 3, x.setting(10));
        });
    }

    private static void positions() {
        sentence("the index of the first byte of a token", () -> {
            wrong("foo;", 1, 0);
            wrong(" \n foo;", 1, 3);
            wrong("arc  \n 0 1;", 2, 7);
            wrong("arc 1  181;", 2, 7);
            wrong("name a;\nname abcdefghij;", 1, 13);
        });
        sentence("or the length of the text if it ends too early", () -> {
            wrong("arc", 1, 3);
            wrong("arc ", 1, 4);
            wrong("arc \n ", 1, 6);
            wrong("arc 1 1 hard", 1, 12);
            wrong("name a;name", 1, 11);
            wrong("name a; name b \n\n", 1, 17);
        });
    }

    private static void order() {
        sentence("Tokens are checked from left to right and the first error is reported", () -> {
            wrong("arc 0 0;", 2, 4);
            wrong("arc 1 0; foo", 2, 6);
            wrong("foo; @", 1, 0);
            wrong("arc 0 1; @", 2, 4);
            wrong("arc 0", 2, 4);
            wrong("seed 1;seed 2;@", 3, 7);
            wrong(SIX_KINDS + "flourish a 1 1 1;", 5, SIX_KINDS.length());
            wrong("flourish a 1 1 1;flourish a 0 0 0;", 3, 26);
        });
        sentence("if several codes apply at one token, the lowest one", () -> {
            wrong(TWENTY_LETTERS + "name abcdefghi;", 1, TWENTY_LETTERS.length() + 5);
            wrong(TWENTY_LETTERS + "name 1;", 1, TWENTY_LETTERS.length() + 5);
            wrong("arc 1 1 999;", 1, 8);
            wrong("arc 9999 1;", 1, 4);
            wrong("seed 1 seed 2;", 1, 7);
            wrong(EIGHT_ARCS.substring(0, 63) + " arc 1 1;", 1, 64);
            wrong(SIX_KINDS.substring(0, SIX_KINDS.length() - 1) + " flourish g 1 1 1;", 1, SIX_KINDS.length());
        });
        sentence("5: the first word of a 9th arc or a 7th flourish", () -> {
            wrong(EIGHT_ARCS + " arc", 5, 65);
            wrong(EIGHT_ARCS + "arcs", 1, 64);
            wrong(SIX_KINDS + "\nflourish", 5, SIX_KINDS.length() + 1);
            wrong(SIX_KINDS + "flouris", 1, SIX_KINDS.length());
        });
        sentence("5: a WORD of \"name\" with which there would be more than 20 letters", () -> {
            wrong(TWENTY_LETTERS + "name", 1, TWENTY_LETTERS.length() + 4);
            wrong(TWENTY_LETTERS + "name a", 5, TWENTY_LETTERS.length() + 5);
            wrong(TWENTY_LETTERS + "name abcdefgh;", 5, TWENTY_LETTERS.length() + 5);
        });
    }
}
