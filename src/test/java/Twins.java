/**
 * Two like plates: one is put calls that must leave all as it was, the other is not, and then all that can be told of
 * both is compared.
 */
final class Twins {
    interface Maker {
        CurvedNames make();
    }

    interface Ask {
        int of(CurvedNames plate);
    }

    private Twins() {
    }

    /** Each of the calls is refused, and leaves all as it was. */
    static void refused(Class<? extends RuntimeException> want, Maker maker, Ask... asks) {
        CurvedNames asked = maker.make();
        for (int i = 0; i < asks.length; i++) {
            Ask ask = asks[i];
            Checks.thrown("call " + i, want, () -> ask.of(asked));
        }
        Checks.due("as it was", all(maker.make()), all(asked));
    }

    /** Each of the calls is answered, and leaves all as it was. */
    static void only(Maker maker, Ask... asks) {
        CurvedNames asked = maker.make();
        for (Ask ask : asks) {
            ask.of(asked);
        }
        Checks.due("as it was", all(maker.make()), all(asked));
    }

    /**
     * A plate with something of all that there is: scratches, a spoiled letter, a letter with a mend, a state that is
     * saved, changes to be undone, a report, an error and a text in the buffer.
     */
    static CurvedNames used() {
        CurvedNames x = Checks.read("arc 90 30 hard 99;arc 70 20 right hard 98;name dab;wide d 12;wide a 16;"
            + "flourish fg 1 5 2;flourish h 2 9 1;sharp 20;seed 3;");
        x.setMargin(2);
        x.engrave(0);
        x.save();
        x.report();
        x.mend(1);
        x.setWidth(1, 2);
        Checks.put(x, "sharpen 0");
        Checks.thrown("a wrong script", Checks.ILLEGAL, x::runScript);
        Checks.put(x, "name xy;wide x 7;");
        return x;
    }

    /** All that can be told of a plate; it is used up by that. */
    static String all(CurvedNames x) {
        StringBuilder text = new StringBuilder();
        text.append("error ").append(x.errorCode()).append(' ').append(x.errorPosition()).append("\nreport ");
        latestReport(text, x);
        present(text, x);
        layout(text, x);
        past(text, x);
        text.append("\nsaved ").append(answer(x::restore));
        brief(text, x);
        buffer(text, x);
        return text.toString();
    }

    /** The same without the error of the latest reading, which is told first. */
    static String allButError(CurvedNames x) {
        String all = all(x);
        return all.substring(all.indexOf('\n'));
    }

    private static String answer(Checks.Call call) {
        try {
            return String.valueOf(call.answer());
        } catch (RuntimeException e) {
            return e.getClass().getSimpleName();
        }
    }

    private static void latestReport(StringBuilder text, CurvedNames x) {
        String sign = "";
        for (int i = 0; i < 100 && !sign.startsWith("Index"); i++) {
            int at = i;
            sign = answer(() -> x.reportByte(at));
            text.append(sign).append(' ');
        }
    }

    /** The numbers of what there is; of long names only those that calls change by themselves. */
    private static void present(StringBuilder text, CurvedNames x) {
        brief(text, x);
        int letters = x.setting(1);
        for (int letter = 0; letter < letters && letters <= 4; letter++) {
            text.append("\nletter");
            for (int what = 0; what < 13; what++) {
                text.append(' ').append(x.letter(letter, what));
            }
        }
        for (int arc = 0; arc < x.setting(0); arc++) {
            text.append("\narc");
            for (int what = 0; what < 7; what++) {
                text.append(' ').append(x.arc(arc, what));
            }
        }
        for (int kind = 0; kind < x.setting(2); kind++) {
            text.append("\nkind ").append(x.stockLeft(kind));
            for (int i = 0; i < 3; i++) {
                text.append(' ').append(x.flourishLetter(kind, i));
            }
        }
        for (int scratch = 0; scratch < x.setting(7); scratch++) {
            text.append(" reaches ").append(x.scratch(scratch, 1));
        }
    }

    private static void layout(StringBuilder text, CurvedNames x) {
        text.append("\nlayout ").append(Checks.rooms(x)).append(' ').append(x.crowded()).append(' ').append(x.tightest());
        text.append(' ').append(x.worth()).append(' ').append(x.meanRoom()).append(' ').append(x.filled());
        text.append(' ').append(x.slipsIf()).append(' ').append(x.leastSharp()).append(' ').append(x.leastGrowth());
        text.append(' ').append(x.mostWidth(0)).append(' ').append(x.mostWidth(1)).append(' ').append(x.spare());
    }

    private static void past(StringBuilder text, CurvedNames x) {
        for (int left = x.undo(); left != -1; left = x.undo()) {
            text.append("\nundone ").append(left);
            brief(text, x);
        }
    }

    private static void brief(StringBuilder text, CurvedNames x) {
        text.append("\nsettings");
        for (int what = 0; what < 14; what++) {
            text.append(' ').append(x.setting(what));
        }
        for (int letter = 0; letter < x.setting(1); letter++) {
            text.append(' ').append(x.letter(letter, 8)).append(x.letter(letter, 11)).append(x.letter(letter, 12));
        }
        for (int arc = 0; arc < x.setting(0); arc++) {
            text.append(' ').append(x.arc(arc, 0));
        }
    }

    /** How many bytes there are, and what they are as a text. */
    private static void buffer(StringBuilder text, CurvedNames x) {
        text.append("\nbuffer ").append(answer(() -> x.feed(0x20202020, 0x20202020, 0x20202020, 0x20202020, 0x20202020)));
        text.append(' ').append(answer(x::readText));
        text.append(' ').append(x.errorCode()).append(' ').append(x.errorPosition()).append(' ').append(x.setting(1));
        for (int letter = 0; letter < x.setting(1); letter++) {
            text.append(' ').append(x.letter(letter, 0)).append(' ').append(x.letter(letter, 1));
        }
    }
}
