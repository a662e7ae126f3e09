import java.util.ArrayDeque;
import java.util.ArrayList;
import java.util.Arrays;
import java.util.Deque;
import java.util.List;
import java.util.regex.Matcher;
import java.util.regex.Pattern;

/**
 * The document once more, written another way: tokens by patterns, the curve tenth by tenth, states as copies.
 * It bears the face of CurvedNames, so that ModelTest can put the same calls to both.
 */
public final class Oracle {
    private static final class Wrong extends RuntimeException {
        private static final long serialVersionUID = 1L;
        final int code;
        final int position;

        Wrong(int code, int position) {
            this.code = code;
            this.position = position;
        }
    }

    private record Arc(int radius, int degrees, boolean right, int hard) {
    }

    private record Flourish(String name, int width, int worth, int stock) {
    }

    private record Scratch(int letter, int reach) {
    }

    private record Token(String text, int at) {
        boolean isWord() {
            return text.matches("[a-z]{1,8}");
        }

        boolean isNumber() {
            return text.matches("[0-9]{1,3}");
        }
    }

    private static final class State {
        List<Arc> arcs = new ArrayList<>();
        String name = "";
        List<Flourish> flourishes = new ArrayList<>();
        int[] widths = new int[26];
        int sharp = 50;
        int margin = 1;
        int x = 1;
        int slips;
        int strokes;
        List<Scratch> scratches = new ArrayList<>();
        boolean[] engraved = new boolean[20];
        int[] mends = new int[20];

        State() {
            Arrays.fill(widths, 4);
        }

        State copy() {
            State s = new State();
            s.arcs = new ArrayList<>(arcs);
            s.name = name;
            s.flourishes = new ArrayList<>(flourishes);
            s.widths = widths.clone();
            s.sharp = sharp;
            s.margin = margin;
            s.x = x;
            s.slips = slips;
            s.strokes = strokes;
            s.scratches = new ArrayList<>(scratches);
            s.engraved = engraved.clone();
            s.mends = mends.clone();
            return s;
        }

        /** The radius of each tenth of the curve, 0 bends and so on by arc. */
        int[] arcOfTenth() {
            int whole = arcs.stream().mapToInt(a -> 10 * a.degrees()).sum();
            int[] tenths = new int[whole];
            int t = 0;
            for (int i = 0; i < arcs.size(); i++) {
                for (int k = 0; k < 10 * arcs.get(i).degrees(); k++) {
                    tenths[t++] = i;
                }
            }
            return tenths;
        }

        int[] partsByTurn() {
            int[] tenths = arcOfTenth();
            int[] parts = new int[tenths.length + 1];
            for (int t = 0; t < tenths.length; t++) {
                parts[t + 1] = parts[t] + arcs.get(tenths[t]).radius();
            }
            return parts;
        }

        int[] bendByTurn() {
            int[] tenths = arcOfTenth();
            int[] bend = new int[tenths.length + 1];
            for (int t = 0; t < tenths.length; t++) {
                bend[t + 1] = bend[t] + (arcs.get(tenths[t]).right() ? -1 : 1);
            }
            return bend;
        }

        int n() {
            return name.length();
        }

        int place(int k) {
            return name.charAt(k) - 'a';
        }

        int centre(int k) {
            long whole = partsByTurn().length - 1;
            return (int) ((2L * k + 1) * whole / (2L * n()));
        }

        int arcOf(int k) {
            int[] tenths = arcOfTenth();
            int c = centre(k);
            return tenths.length == 0 ? -1 : c < tenths.length ? tenths[c] : arcs.size() - 1;
        }

        int hardOf(int k) {
            return arcs.isEmpty() ? 0 : arcs.get(arcOf(k)).hard();
        }

        int strokesOf(int k) {
            return 1 + place(k) % 4;
        }

        int[] rooms() {
            int[] parts = partsByTurn();
            int[] edges = new int[2 * n() + 2];
            for (int k = 0; k < n(); k++) {
                edges[2 * k + 1] = parts[centre(k)] - 500 * widths[place(k)];
                edges[2 * k + 2] = parts[centre(k)] + 500 * widths[place(k)];
            }
            edges[2 * n() + 1] = parts[parts.length - 1];
            int[] rooms = new int[n() + 1];
            for (int k = 0; k <= n(); k++) {
                rooms[k] = edges[2 * k + 1] - edges[2 * k];
            }
            return rooms;
        }

        int crowdedSet() {
            int set = 0;
            int[] rooms = rooms();
            for (int k = 0; k < rooms.length; k++) {
                set += rooms[k] < 100 * margin ? 1 << k : 0;
            }
            return set;
        }

        int[] fillings() {
            int[] rooms = rooms();
            List<Integer> order = new ArrayList<>();
            for (int k = 0; k < rooms.length; k++) {
                order.add(k);
            }
            order.sort((a, b) -> rooms[a] != rooms[b] ? Integer.compare(rooms[b], rooms[a]) : a - b);
            int[] left = flourishes.stream().mapToInt(Flourish::stock).toArray();
            int[] in = new int[rooms.length];
            for (int k : order) {
                in[k] = -1;
                for (int f = flourishes.size() - 1; f >= 0; f--) {
                    Flourish flourish = flourishes.get(f);
                    boolean fits = 1000 * flourish.width() + 200 * margin <= rooms[k];
                    if (left[f] > 0 && fits && (in[k] < 0 || flourish.worth() >= flourishes.get(in[k]).worth())) {
                        in[k] = f;
                    }
                }
                if (in[k] >= 0) {
                    left[in[k]]--;
                }
            }
            return in;
        }

        int draw(int n) {
            x = x * 1103515245 + 12345;
            return (x >>> 16) % n;
        }

        int engraveOne(int k) {
            int came = 0;
            for (int i = 0; i < strokesOf(k); i++) {
                int lacking = hardOf(k) - sharp;
                if (lacking > 0 && draw(100) < 2 * lacking) {
                    scratches.add(new Scratch(k, 100 * (1 + draw(20))));
                    came++;
                    slips++;
                }
                strokes++;
                sharp = sharp == 0 ? 0 : sharp - 1;
            }
            engraved[k] = true;
            return came;
        }

        int slipsOfAll() {
            State s = copy();
            int came = 0;
            for (int k = 0; k < n(); k++) {
                came += engraved[k] ? 0 : s.engraveOne(k);
            }
            return came;
        }

        int spoiledBy(int i) {
            Scratch s = scratches.get(i);
            int behind = s.letter() + 1;
            return behind < n() && s.reach() > rooms()[behind] ? behind : -1;
        }

        boolean spoiled(int k) {
            for (int i = 0; i < scratches.size(); i++) {
                if (spoiledBy(i) == k) {
                    return true;
                }
            }
            return false;
        }
    }

    private final ArrayList<Byte> buffer = new ArrayList<>();
    private int code;
    private int position = -1;
    private State now = new State();
    private State kept;
    private final Deque<State> undos = new ArrayDeque<>();
    private String written = "";

    // ---- texts

    public int feed(int a, int b, int c, int d, int e) {
        if (buffer.size() > 480) {
            throw new IllegalStateException();
        }
        for (int value : new int[] {a, b, c, d, e}) {
            buffer.add((byte) (value >> 24));
            buffer.add((byte) (value >> 16));
            buffer.add((byte) (value >> 8));
            buffer.add((byte) value);
        }
        return buffer.size();
    }

    public int truncate(int n) {
        if (n < 0 || n > buffer.size()) {
            throw new IllegalArgumentException();
        }
        while (buffer.size() > n) {
            buffer.remove(buffer.size() - 1);
        }
        return n;
    }

    private String take() {
        StringBuilder text = new StringBuilder();
        for (byte b : buffer) {
            text.append((char) (b & 255));
        }
        buffer.clear();
        return text.toString();
    }

    private static final Pattern TOKEN = Pattern.compile("[a-z]+|[0-9]+|[^ \\na-z0-9]", Pattern.DOTALL);

    private static Deque<Token> tokens(String text) {
        Deque<Token> tokens = new ArrayDeque<>();
        Matcher m = TOKEN.matcher(text);
        while (m.find()) {
            tokens.add(new Token(m.group(), m.start()));
        }
        tokens.add(new Token("", text.length()));
        return tokens;
    }

    private static String word(Deque<Token> t) {
        if (!t.peek().isWord()) {
            throw new Wrong(1, t.peek().at());
        }
        return t.poll().text();
    }

    private static int number(Deque<Token> t, int least, int most) {
        if (!t.peek().isNumber()) {
            throw new Wrong(1, t.peek().at());
        }
        int value = Integer.parseInt(t.peek().text());
        if (value < least || value > most) {
            throw new Wrong(2, t.peek().at());
        }
        t.poll();
        return value;
    }

    private static void sign(Deque<Token> t, String sign) {
        if (!t.peek().text().equals(sign)) {
            throw new Wrong(1, t.peek().at());
        }
        t.poll();
    }

    private static boolean optional(Deque<Token> t, String word) {
        boolean here = t.peek().text().equals(word);
        if (here) {
            t.poll();
        }
        return here;
    }

    private static void once(List<String> seen, Token token) {
        if (seen.contains(token.text())) {
            throw new Wrong(3, token.at());
        }
        seen.add(token.text());
    }

    private static State parseText(String text) {
        State s = new State();
        List<String> seen = new ArrayList<>();
        Deque<Token> t = tokens(text);
        while (!t.peek().text().isEmpty()) {
            Token first = t.poll();
            switch (first.text()) {
                case "arc": {
                    if (s.arcs.size() == 8) {
                        throw new Wrong(5, first.at());
                    }
                    int radius = number(t, 1, 99);
                    int degrees = number(t, 1, 180);
                    boolean right = optional(t, "right");
                    s.arcs.add(new Arc(radius, degrees, right, optional(t, "hard") ? number(t, 0, 99) : 30));
                    break;
                }
                case "name": {
                    int at = t.peek().at();
                    String more = word(t);
                    if (s.n() + more.length() > 20) {
                        throw new Wrong(5, at);
                    }
                    s.name += more;
                    break;
                }
                case "wide": {
                    String letters = word(t);
                    int width = number(t, 1, 99);
                    letters.chars().forEach(c -> s.widths[c - 'a'] = width);
                    break;
                }
                case "flourish": {
                    if (s.flourishes.size() == 6) {
                        throw new Wrong(5, first.at());
                    }
                    int at = t.peek().at();
                    String name = word(t);
                    if (s.flourishes.stream().anyMatch(f -> f.name().equals(name))) {
                        throw new Wrong(3, at);
                    }
                    s.flourishes.add(new Flourish(name, number(t, 1, 99), number(t, 1, 99), number(t, 1, 9)));
                    break;
                }
                case "seed":
                    once(seen, first);
                    s.x = number(t, 0, 999);
                    break;
                case "sharp":
                    once(seen, first);
                    s.sharp = number(t, 1, 99);
                    break;
                case "margin":
                    once(seen, first);
                    s.margin = number(t, 0, 99);
                    break;
                default:
                    throw new Wrong(1, first.at());
            }
            sign(t, ";");
        }
        return s;
    }

    public int readText() {
        try {
            State read = parseText(take());
            now = read;
            undos.clear();
            code = 0;
            position = -1;
            return now.n();
        } catch (Wrong e) {
            code = e.code;
            position = e.position;
            throw new IllegalArgumentException();
        }
    }

    /** A command: its word, its number, and what is in its parentheses. */
    private record Command(String word, int n, List<Command> inner) {
    }

    private int commands;

    private List<Command> parseScript(Deque<Token> t, int depth) {
        List<Command> script = new ArrayList<>();
        while (!(t.peek().text().isEmpty() || depth > 0 && t.peek().text().equals(")"))) {
            Token first = t.poll();
            if (!first.text().matches("engrave|all|mend|polish|sharpen|margin|repeat")) {
                throw new Wrong(1, first.at());
            }
            if (first.text().equals("repeat") && depth == 2) {
                throw new Wrong(3, first.at());
            }
            if (++commands > 30) {
                throw new Wrong(5, first.at());
            }
            if (first.text().equals("all")) {
                script.add(new Command("all", 0, null));
            } else if (first.text().equals("repeat")) {
                int times = number(t, 1, 20);
                sign(t, "(");
                List<Command> inner = parseScript(t, depth + 1);
                sign(t, ")");
                script.add(new Command("repeat", times, inner));
            } else {
                script.add(new Command(first.text(), number(t, 0, 999), null));
            }
            sign(t, ";");
        }
        return script;
    }

    private int done;

    private void perform(List<Command> script) {
        for (Command c : script) {
            if (c.inner() != null) {
                for (int i = 0; i < c.n(); i++) {
                    perform(c.inner());
                }
                continue;
            }
            if (done == 40) {
                throw new IllegalStateException();
            }
            switch (c.word()) {
                case "engrave": doEngrave(c.n()); break;
                case "all": doEngraveAll(); break;
                case "mend": doMend(c.n()); break;
                case "polish": doPolish(c.n()); break;
                case "sharpen": doSharpen(c.n()); break;
                default: doSetMargin(c.n()); break;
            }
            done++;
        }
    }

    public int runScript() {
        List<Command> parsed;
        try {
            commands = 0;
            parsed = parseScript(tokens(take()), 0);
        } catch (Wrong e) {
            code = e.code;
            position = e.position;
            throw new IllegalArgumentException();
        }
        code = 0;
        position = -1;
        State before = now.copy();
        done = 0;
        try {
            perform(parsed);
        } catch (RuntimeException e) {
            // The script ends there; what was done stays.
        }
        keep(before);
        return done;
    }

    public int errorCode() {
        return code;
    }

    public int errorPosition() {
        return position;
    }

    // ---- what is there

    private static int pick(int what, int... numbers) {
        if (what < 0 || what >= numbers.length) {
            throw new IllegalArgumentException();
        }
        return numbers[what];
    }

    private static void index(int i, int count) {
        if (i < 0 || i >= count) {
            throw new IndexOutOfBoundsException();
        }
    }

    public int setting(int what) {
        int[] parts = now.partsByTurn();
        int engraved = 0;
        int spoiled = 0;
        for (int k = 0; k < now.n(); k++) {
            engraved += now.engraved[k] ? 1 : 0;
            spoiled += now.spoiled(k) ? 1 : 0;
        }
        return pick(what, now.arcs.size(), now.n(), now.flourishes.size(), parts.length - 1,
            parts[parts.length - 1], now.sharp, now.margin, now.scratches.size(), engraved, spoiled, now.x,
            now.slips, now.strokes, undos.size());
    }

    public int arc(int arc, int what) {
        index(arc, now.arcs.size());
        Arc a = now.arcs.get(arc);
        int turn = 0;
        while (now.arcOfTenth()[turn] != arc) {
            turn++;
        }
        int on = 0;
        for (int k = 0; k < now.n(); k++) {
            on += now.arcOf(k) == arc ? 1 : 0;
        }
        return pick(what, a.radius(), a.degrees(), a.right() ? 1 : 0, a.hard(), turn, now.partsByTurn()[turn], on);
    }

    public int letter(int letter, int what) {
        index(letter, now.n());
        int c = now.centre(letter);
        int parts = now.partsByTurn()[c];
        int width = now.widths[now.place(letter)];
        int marks = (int) now.scratches.stream().filter(s -> s.letter() == letter).count();
        return pick(what, now.place(letter), 1000 * width, c, parts, parts - 500 * width, parts + 500 * width,
            Math.floorMod(now.bendByTurn()[c], 3600), now.arcOf(letter), now.engraved[letter] ? 1 : 0,
            now.spoiled(letter) ? 1 : 0, now.strokesOf(letter), now.mends[letter], marks);
    }

    public int scratch(int scratch, int what) {
        index(scratch, now.scratches.size());
        Scratch s = now.scratches.get(scratch);
        return pick(what, s.letter(), s.reach(), now.spoiledBy(scratch));
    }

    public int flourishLetter(int flourish, int i) {
        index(flourish, now.flourishes.size());
        String name = now.flourishes.get(flourish).name();
        return i >= 0 && i < name.length() ? name.charAt(i) : 0;
    }

    // ---- the curve

    public int partsAt(int turn) {
        return pick(turn, now.partsByTurn());
    }

    public int heading(int turn) {
        return Math.floorMod(pick(turn, now.bendByTurn()), 3600);
    }

    public int turnAt(int parts) {
        int[] all = now.partsByTurn();
        if (parts < 0 || parts > all[all.length - 1]) {
            throw new IllegalArgumentException();
        }
        int turn = all.length - 1;
        while (all[turn] > parts) {
            turn--;
        }
        return turn;
    }

    public int farthestLeft() {
        return Arrays.stream(now.bendByTurn()).max().getAsInt();
    }

    // ---- letters, rooms, flourishes

    public int room(int room) {
        index(room, now.n() + 1);
        return now.rooms()[room];
    }

    public int crowded() {
        return now.crowdedSet();
    }

    public int tightest() {
        int[] rooms = now.rooms();
        int least = Arrays.stream(rooms).min().getAsInt();
        int k = 0;
        while (rooms[k] != least) {
            k++;
        }
        return k;
    }

    public int flourishIn(int room) {
        index(room, now.n() + 1);
        return now.fillings()[room];
    }

    public int stockLeft(int flourish) {
        index(flourish, now.flourishes.size());
        int used = (int) Arrays.stream(now.fillings()).filter(f -> f == flourish).count();
        return now.flourishes.get(flourish).stock() - used;
    }

    public int worth() {
        return Arrays.stream(now.fillings()).map(f -> f < 0 ? 0 : now.flourishes.get(f).worth()).sum();
    }

    public double meanRoom() {
        return (double) Arrays.stream(now.rooms()).sum() / now.rooms().length;
    }

    public float filled() {
        int[] parts = now.partsByTurn();
        int letters = now.name.chars().map(c -> 1000 * now.widths[c - 'a']).sum();
        return now.arcs.isEmpty() ? 0.0f : (float) letters / (float) parts[parts.length - 1];
    }

    // ---- what would be

    public int danger(int letter) {
        index(letter, now.n());
        int twice = 2 * (now.hardOf(letter) - now.sharp);
        return twice < 0 ? 0 : twice > 100 ? 100 : twice;
    }

    public int slipsIf() {
        return now.slipsOfAll();
    }

    public int leastSharp() {
        State s = now.copy();
        for (s.sharp = 1; s.sharp < 100; s.sharp++) {
            if (s.slipsOfAll() == 0) {
                return s.sharp;
            }
        }
        return -1;
    }

    public int leastGrowth() {
        for (int g = 0; g < 100; g++) {
            State s = now.copy();
            int by = g;
            s.arcs.replaceAll(a -> new Arc(a.radius() + by, a.degrees(), a.right(), a.hard()));
            if (s.crowdedSet() == 0) {
                return g;
            }
        }
        return -1;
    }

    public int mostWidth(int place) {
        if (place < 0 || place > 25) {
            throw new IllegalArgumentException();
        }
        State s = now.copy();
        int best = -1;
        for (int width = 1; width < 100; width++) {
            s.widths[place] = width;
            best = s.crowdedSet() == 0 ? width : best;
        }
        return best;
    }

    public int tightestIf() {
        String word = take();
        if (!word.matches("[a-z]{1,8}") || word.endsWith("\n")) {
            throw new IllegalArgumentException();
        }
        State s = now.copy();
        s.name = word;
        return Arrays.stream(s.rooms()).min().getAsInt();
    }

    public int spare() {
        int best = -1;
        int fewest = 99;
        for (int a = 0; a < now.arcs.size(); a++) {
            State s = now.copy();
            s.arcs.remove(a);
            if (Integer.bitCount(s.crowdedSet()) < fewest) {
                fewest = Integer.bitCount(s.crowdedSet());
                best = a;
            }
        }
        return best;
    }

    // ---- changes

    private interface Change {
        int make();
    }

    private void keep(State before) {
        undos.push(before);
        if (undos.size() > 6) {
            undos.removeLast();
        }
    }

    private int changed(Change change) {
        State before = now.copy();
        int answer = change.make();
        keep(before);
        return answer;
    }

    private static void demand(boolean holds) {
        if (!holds) {
            throw new IllegalStateException();
        }
    }

    private static void range(int n, int least, int most) {
        if (n < least || n > most) {
            throw new IllegalArgumentException();
        }
    }

    private int doEngrave(int letter) {
        index(letter, now.n());
        demand(!now.engraved[letter] && !now.arcs.isEmpty() && now.scratches.size() <= 40);
        return now.engraveOne(letter);
    }

    private int doEngraveAll() {
        int planned = 0;
        for (int k = 0; k < now.n(); k++) {
            planned += now.engraved[k] ? 0 : 1;
        }
        demand(planned > 0 && !now.arcs.isEmpty() && now.scratches.size() <= 40);
        int count = 0;
        for (int k = 0; k < now.n() && now.scratches.size() <= 40; k++) {
            if (!now.engraved[k]) {
                now.engraveOne(k);
                count++;
            }
        }
        return count;
    }

    private int doMend(int scratch) {
        index(scratch, now.scratches.size());
        int letter = now.scratches.get(scratch).letter();
        demand(now.mends[letter] < 3);
        now.mends[letter]++;
        now.scratches.remove(scratch);
        return now.scratches.size();
    }

    private int doPolish(int letter) {
        index(letter, now.n());
        demand(now.engraved[letter] && now.mends[letter] < 3);
        int before = now.scratches.size();
        now.scratches.removeIf(s -> s.letter() == letter);
        now.engraved[letter] = false;
        now.mends[letter]++;
        return before - now.scratches.size();
    }

    private int doSharpen(int by) {
        range(by, 1, 99);
        now.sharp = Math.min(99, now.sharp + by);
        return now.sharp;
    }

    private int doSetMargin(int margin) {
        range(margin, 0, 99);
        int before = now.margin;
        now.margin = margin;
        return before;
    }

    public int engrave(int letter) {
        return changed(() -> doEngrave(letter));
    }

    public int engraveAll() {
        return changed(this::doEngraveAll);
    }

    public int mend(int scratch) {
        return changed(() -> doMend(scratch));
    }

    public int polish(int letter) {
        return changed(() -> doPolish(letter));
    }

    public int sharpen(int by) {
        return changed(() -> doSharpen(by));
    }

    public int setMargin(int margin) {
        return changed(() -> doSetMargin(margin));
    }

    public int setRadius(int arc, int radius) {
        return changed(() -> {
            index(arc, now.arcs.size());
            range(radius, 1, 99);
            Arc a = now.arcs.get(arc);
            now.arcs.set(arc, new Arc(radius, a.degrees(), a.right(), a.hard()));
            return a.radius();
        });
    }

    public int setWidth(int place, int width) {
        return changed(() -> {
            range(place, 0, 25);
            range(width, 1, 99);
            int before = now.widths[place];
            now.widths[place] = width;
            return before;
        });
    }

    // ---- reports, undo, a saved state

    public int report() {
        StringBuilder text = new StringBuilder();
        int[] fillings = now.fillings();
        for (int k = 0; k <= now.n(); k++) {
            text.append(fillings[k] < 0 ? "" : "(" + now.flourishes.get(fillings[k]).name() + ")");
            if (k < now.n()) {
                String sign = now.name.substring(k, k + 1);
                int letter = k;
                int marks = (int) now.scratches.stream().filter(s -> s.letter() == letter).count();
                text.append(now.engraved[k] ? sign.toUpperCase() : sign);
                text.append(now.spoiled(k) ? "!" : "").append("*".repeat(marks));
            }
        }
        written = text.toString();
        return written.length();
    }

    public int reportByte(int i) {
        index(i, written.length());
        return written.charAt(i);
    }

    public int undo() {
        if (undos.isEmpty()) {
            return -1;
        }
        now = undos.pop();
        return undos.size();
    }

    public int save() {
        kept = now.copy();
        return kept.scratches.size();
    }

    public int restore() {
        demand(kept != null);
        now = kept.copy();
        undos.clear();
        return now.scratches.size();
    }
}
