/**
 * A nameplate that is engraved along a curve of arcs.
 *
 * <p>All rows are made with the object and used again by its calls: no call makes objects of its own.
 */
public final class CurvedNames {
    public static final int NONE = -1;

    private static final int MOST_BYTES = 500;
    private static final int FED_BYTES = 20;
    private static final int LONGEST_WORD = 8;
    private static final int LONGEST_NUMBER = 3;
    private static final int ALPHABET = 26;
    private static final int MOST_ARCS = 8;
    private static final int MOST_LETTERS = 20;
    private static final int MOST_ROOMS = MOST_LETTERS + 1;
    private static final int MOST_KINDS = 6;
    private static final int MOST_STROKES = 4;
    private static final int MOST_MENDS = 3;
    private static final int MOST_CHANGES = 6;

    /** No letter is begun with more scratches than these; one that is begun is ended all the same. */
    private static final int SCRATCH_LIMIT = 40;
    private static final int MOST_SCRATCHES = SCRATCH_LIMIT + MOST_STROKES;

    private static final int MOST_RADIUS = 99;
    private static final int MOST_DEGREES = 180;
    private static final int MOST_HARDNESS = 99;
    private static final int MOST_WIDTH = 99;
    private static final int MOST_WORTH = 99;
    private static final int MOST_STOCK = 9;
    private static final int MOST_SHARPNESS = 99;
    private static final int MOST_MARGIN = 99;
    private static final int MOST_GROWTH = 99;
    private static final int MOST_NUMBER = 999;

    private static final int NOT_ALLOWED = 1;
    private static final int OUT_OF_RANGE = 2;
    private static final int NOT_AGAIN = 3;
    private static final int TOO_MANY = 5;

    private final Plate plate = new Plate();
    private final Plate draft = new Plate();
    private final Plate trial = new Plate();
    private final Plate saved = new Plate();
    private boolean isSaved;
    private final Plate[] past = new Plate[MOST_CHANGES];
    private int changes;
    private final Graver trialGraver = new Graver();
    private final Layout layout = new Layout();
    private final Tokens buffer = new Tokens();
    private final TextReader textReader = new TextReader();
    private final Script script = new Script();
    private final Report written = new Report();

    public CurvedNames() {
        for (int i = 0; i < MOST_CHANGES; i++) {
            past[i] = new Plate();
        }
    }

    // ---- texts

    public int feed(int a, int b, int c, int d, int e) throws IllegalStateException {
        if (buffer.length + FED_BYTES > MOST_BYTES) {
            throw new IllegalStateException("the buffer would exceed its length");
        }
        buffer.append(a);
        buffer.append(b);
        buffer.append(c);
        buffer.append(d);
        buffer.append(e);
        return buffer.length;
    }

    public int truncate(int n) throws IllegalArgumentException {
        if (!isWithin(n, 0, buffer.length)) {
            throw new IllegalArgumentException("no such length");
        }
        buffer.length = n;
        return n;
    }

    public int readText() throws IllegalArgumentException {
        boolean isText = textReader.readInto(draft, buffer);
        buffer.length = 0;
        if (!isText) {
            throw new IllegalArgumentException("the text has an error");
        }
        plate.copyFrom(draft);
        changes = 0;
        return plate.name.letters;
    }

    public int runScript() throws IllegalArgumentException {
        boolean isScript = script.readFrom(buffer);
        buffer.length = 0;
        if (!isScript) {
            throw new IllegalArgumentException("the script has an error");
        }
        keepForUndo();
        return script.runOn(plate);
    }

    public int errorCode() {
        return buffer.failCode;
    }

    public int errorPosition() {
        return buffer.failPosition;
    }

    // ---- what is there

    public int setting(int what) throws IllegalArgumentException {
        switch (what) {
            case 0: return plate.curve.arcs;
            case 1: return plate.name.letters;
            case 2: return plate.kinds.count;
            case 3: return plate.curve.wholeTurn();
            case 4: return plate.curve.wholeParts();
            case 5: return plate.graver.sharp;
            case 6: return plate.margin;
            case 7: return plate.scratches.count;
            case 8: return plate.name.engravedLetters();
            case 9: return spoiledLetters();
            case 10: return plate.graver.x;
            case 11: return plate.graver.slips;
            case 12: return plate.graver.strokes;
            case 13: return changes;
            default: throw new IllegalArgumentException("no such setting");
        }
    }

    public int arc(int arc, int what) throws IndexOutOfBoundsException, IllegalArgumentException {
        if (!plate.hasArc(arc)) {
            throw new IndexOutOfBoundsException("no such arc");
        }
        switch (what) {
            case 0: return plate.curve.radius[arc];
            case 1: return plate.curve.degrees[arc];
            case 2: return plate.curve.bendsRight[arc] ? 1 : 0;
            case 3: return plate.curve.hardness[arc];
            case 4: return plate.curve.turnAhead(arc);
            case 5: return plate.curve.partsAhead(arc);
            case 6: return plate.centresOn(arc);
            default: throw new IllegalArgumentException("no such number of an arc");
        }
    }

    public int letter(int letter, int what) throws IndexOutOfBoundsException, IllegalArgumentException {
        if (!plate.hasLetter(letter)) {
            throw new IndexOutOfBoundsException("no such letter");
        }
        switch (what) {
            case 0: return plate.name.places[letter];
            case 1: return plate.name.partsOf(letter);
            case 2: return plate.centreTurn(letter);
            case 3: return plate.centreParts(letter);
            case 4: return plate.leftEdge(letter);
            case 5: return plate.rightEdge(letter);
            case 6: return plate.curve.headingTo(plate.centreTurn(letter));
            case 7: return plate.arcUnder(letter);
            case 8: return plate.name.isEngraved[letter] ? 1 : 0;
            case 9: return isSpoiled(letter) ? 1 : 0;
            case 10: return plate.name.strokesOf(letter);
            case 11: return plate.name.mends[letter];
            case 12: return plate.scratches.countOf(letter);
            default: throw new IllegalArgumentException("no such number of a letter");
        }
    }

    public int scratch(int scratch, int what) throws IndexOutOfBoundsException, IllegalArgumentException {
        if (!plate.hasScratch(scratch)) {
            throw new IndexOutOfBoundsException("no such scratch");
        }
        switch (what) {
            case 0: return plate.scratches.letters[scratch];
            case 1: return plate.scratches.reaches[scratch];
            case 2: return letterSpoiledBy(scratch);
            default: throw new IllegalArgumentException("no such number of a scratch");
        }
    }

    public int flourishLetter(int flourish, int i) throws IndexOutOfBoundsException {
        if (!plate.hasKind(flourish)) {
            throw new IndexOutOfBoundsException("no such flourish");
        }
        return plate.kinds.nameByte(flourish, i);
    }

    // ---- the curve

    public int partsAt(int turn) throws IllegalArgumentException {
        if (!isWithin(turn, 0, plate.curve.wholeTurn())) {
            throw new IllegalArgumentException("no such turn");
        }
        return plate.curve.partsTo(turn);
    }

    public int heading(int turn) throws IllegalArgumentException {
        if (!isWithin(turn, 0, plate.curve.wholeTurn())) {
            throw new IllegalArgumentException("no such turn");
        }
        return plate.curve.headingTo(turn);
    }

    public int turnAt(int parts) throws IllegalArgumentException {
        if (!isWithin(parts, 0, plate.curve.wholeParts())) {
            throw new IllegalArgumentException("no such parts");
        }
        return plate.curve.turnWithin(parts);
    }

    public int farthestLeft() {
        return plate.curve.greatestBend();
    }

    // ---- letters, rooms, flourishes

    public int room(int room) throws IndexOutOfBoundsException {
        if (!plate.hasRoom(room)) {
            throw new IndexOutOfBoundsException("no such room");
        }
        layout.measure(plate);
        return layout.rooms[room];
    }

    public int crowded() {
        layout.measure(plate);
        return layout.crowdedRooms(plate.margin);
    }

    public int tightest() {
        layout.measure(plate);
        return layout.tightestRoom();
    }

    public int flourishIn(int room) throws IndexOutOfBoundsException {
        if (!plate.hasRoom(room)) {
            throw new IndexOutOfBoundsException("no such room");
        }
        layout.fill(plate);
        return layout.fillings[room];
    }

    public int stockLeft(int flourish) throws IndexOutOfBoundsException {
        if (!plate.hasKind(flourish)) {
            throw new IndexOutOfBoundsException("no such flourish");
        }
        layout.fill(plate);
        return layout.stock[flourish];
    }

    public int worth() {
        layout.fill(plate);
        return layout.worthOfFillings(plate.kinds);
    }

    public double meanRoom() {
        layout.measure(plate);
        return layout.meanParts();
    }

    public float filled() {
        int whole = plate.curve.wholeParts();
        return whole > 0 ? (float) plate.name.partsOfAll() / (float) whole : 0.0f;
    }

    // ---- what would be

    public int danger(int letter) throws IndexOutOfBoundsException {
        if (!plate.hasLetter(letter)) {
            throw new IndexOutOfBoundsException("no such letter");
        }
        int percentage = 2 * (plate.hardnessUnder(letter) - plate.graver.sharp);
        return Math.max(0, Math.min(100, percentage));
    }

    public int slipsIf() {
        return slipsWith(plate.graver.sharp);
    }

    public int leastSharp() {
        for (int sharp = 1; sharp <= MOST_SHARPNESS; sharp++) {
            if (slipsWith(sharp) == 0) {
                return sharp;
            }
        }
        return NONE;
    }

    public int leastGrowth() {
        trial.copyFrom(plate);
        for (int growth = 0; growth <= MOST_GROWTH; growth++) {
            if (crowdedOfTrial() == 0) {
                return growth;
            }
            trial.curve.growByOne();
        }
        return NONE;
    }

    public int mostWidth(int place) throws IllegalArgumentException {
        if (!isPlace(place)) {
            throw new IllegalArgumentException("no such letter of the alphabet");
        }
        trial.copyFrom(plate);
        for (int width = MOST_WIDTH; width >= 1; width--) {
            trial.name.widths[place] = width;
            if (crowdedOfTrial() == 0) {
                return width;
            }
        }
        return NONE;
    }

    public int tightestIf() throws IllegalArgumentException {
        int letters = buffer.length;
        boolean isWord = buffer.isOneWord();
        buffer.length = 0;
        if (!isWord) {
            throw new IllegalArgumentException("the buffer is no word");
        }
        trial.copyFrom(plate);
        trial.name.letters = 0;
        trial.name.addWord(buffer, 0, letters);
        layout.measure(trial);
        return layout.rooms[layout.tightestRoom()];
    }

    public int spare() {
        int best = NONE;
        int fewest = MOST_ROOMS + 1;
        for (int arc = 0; arc < plate.curve.arcs; arc++) {
            trial.copyFrom(plate);
            trial.curve.removeArc(arc);
            int crowdedThen = Integer.bitCount(crowdedOfTrial());
            if (crowdedThen < fewest) {
                fewest = crowdedThen;
                best = arc;
            }
        }
        return best;
    }

    // ---- changes

    public int engrave(int letter) throws IndexOutOfBoundsException, IllegalStateException {
        if (!plate.hasLetter(letter)) {
            throw new IndexOutOfBoundsException("no such letter");
        }
        if (!plate.canEngrave(letter)) {
            throw new IllegalStateException("the letter can't be engraved");
        }
        keepForUndo();
        return plate.engraveLetter(letter);
    }

    public int engraveAll() throws IllegalStateException {
        if (!plate.canEngravePlanned()) {
            throw new IllegalStateException("no letter can be engraved");
        }
        keepForUndo();
        return plate.engravePlanned();
    }

    public int mend(int scratch) throws IndexOutOfBoundsException, IllegalStateException {
        if (!plate.hasScratch(scratch)) {
            throw new IndexOutOfBoundsException("no such scratch");
        }
        if (!plate.canMend(scratch)) {
            throw new IllegalStateException("the plate is too thin");
        }
        keepForUndo();
        return plate.mendScratch(scratch);
    }

    public int polish(int letter) throws IndexOutOfBoundsException, IllegalStateException {
        if (!plate.hasLetter(letter)) {
            throw new IndexOutOfBoundsException("no such letter");
        }
        if (!plate.canPolish(letter)) {
            throw new IllegalStateException("the letter can't be polished away");
        }
        keepForUndo();
        return plate.polishLetter(letter);
    }

    public int sharpen(int by) throws IllegalArgumentException {
        if (!Graver.canSharpenBy(by)) {
            throw new IllegalArgumentException("no such sharpening");
        }
        keepForUndo();
        return plate.graver.sharpenBy(by);
    }

    public int setMargin(int margin) throws IllegalArgumentException {
        if (!Plate.canHaveMargin(margin)) {
            throw new IllegalArgumentException("no such margin");
        }
        keepForUndo();
        int before = plate.margin;
        plate.margin = margin;
        return before;
    }

    public int setRadius(int arc, int radius) throws IndexOutOfBoundsException, IllegalArgumentException {
        if (!plate.hasArc(arc)) {
            throw new IndexOutOfBoundsException("no such arc");
        }
        if (!isWithin(radius, 1, MOST_RADIUS)) {
            throw new IllegalArgumentException("no such radius");
        }
        keepForUndo();
        int before = plate.curve.radius[arc];
        plate.curve.radius[arc] = radius;
        return before;
    }

    public int setWidth(int place, int width) throws IllegalArgumentException {
        if (!isPlace(place) || !isWithin(width, 1, MOST_WIDTH)) {
            throw new IllegalArgumentException("no such letter of the alphabet, or no such width");
        }
        keepForUndo();
        int before = plate.name.widths[place];
        plate.name.widths[place] = width;
        return before;
    }

    // ---- reports, undo, a saved state

    public int report() {
        layout.fill(plate);
        written.size = 0;
        for (int room = 0; room < layout.count; room++) {
            if (layout.fillings[room] != NONE) {
                written.putName(plate.kinds, layout.fillings[room]);
            }
            if (room < plate.name.letters) {
                written.putLetter(plate, room, layout.isSpoiled(plate, room));
            }
        }
        return written.size;
    }

    public int reportByte(int i) throws IndexOutOfBoundsException {
        if (!isWithin(i, 0, written.size - 1)) {
            throw new IndexOutOfBoundsException("no such byte");
        }
        return written.bytes[i];
    }

    public int undo() {
        if (changes <= 0) {
            return NONE;
        }
        changes--;
        plate.copyFrom(past[changes]);
        return changes;
    }

    public int save() {
        saved.copyFrom(plate);
        isSaved = true;
        return plate.scratches.count;
    }

    public int restore() throws IllegalStateException {
        if (!isSaved) {
            throw new IllegalStateException("nothing was saved");
        }
        plate.copyFrom(saved);
        changes = 0;
        return plate.scratches.count;
    }

    // ---- helpers of the calls above

    private static boolean isWithin(int number, int least, int most) {
        return number >= least && number <= most;
    }

    private static boolean isPlace(int place) {
        return isWithin(place, 0, ALPHABET - 1);
    }

    /** The oldest row is used again when all are full, so that no change makes a new one. */
    private void keepForUndo() {
        if (changes >= MOST_CHANGES) {
            Plate oldest = past[0];
            for (int i = 1; i < MOST_CHANGES; i++) {
                past[i - 1] = past[i];
            }
            past[MOST_CHANGES - 1] = oldest;
            changes = MOST_CHANGES - 1;
        }
        past[changes].copyFrom(plate);
        changes++;
    }

    private boolean isSpoiled(int letter) {
        layout.measure(plate);
        return layout.isSpoiled(plate, letter);
    }

    private int letterSpoiledBy(int scratch) {
        layout.measure(plate);
        return layout.letterSpoiledBy(plate, scratch);
    }

    private int spoiledLetters() {
        layout.measure(plate);
        int spoiled = 0;
        for (int letter = 0; letter < plate.name.letters; letter++) {
            if (layout.isSpoiled(plate, letter)) {
                spoiled++;
            }
        }
        return spoiled;
    }

    private int slipsWith(int sharp) {
        trialGraver.copyFrom(plate.graver);
        trialGraver.sharp = sharp;
        return plate.slipsBy(trialGraver);
    }

    private int crowdedOfTrial() {
        layout.measure(trial);
        return layout.crowdedRooms(trial.margin);
    }

    /** All that a text tells and that changes change. */
    private static final class Plate {
        private final Curve curve = new Curve();
        private final Name name = new Name();
        private final Kinds kinds = new Kinds();
        private final Graver graver = new Graver();
        private final Scratches scratches = new Scratches();
        private int margin = 1;

        /** Makes it as an empty text tells it. */
        void clear() {
            curve.arcs = 0;
            name.clear();
            kinds.count = 0;
            graver.clear();
            scratches.count = 0;
            margin = 1;
        }

        void copyFrom(Plate other) {
            curve.copyFrom(other.curve);
            name.copyFrom(other.name);
            kinds.copyFrom(other.kinds);
            graver.copyFrom(other.graver);
            scratches.copyFrom(other.scratches);
            margin = other.margin;
        }

        boolean hasArc(int arc) {
            return isWithin(arc, 0, curve.arcs - 1);
        }

        boolean hasLetter(int letter) {
            return isWithin(letter, 0, name.letters - 1);
        }

        boolean hasRoom(int room) {
            return isWithin(room, 0, name.letters);
        }

        boolean hasKind(int kind) {
            return isWithin(kind, 0, kinds.count - 1);
        }

        boolean hasScratch(int scratch) {
            return isWithin(scratch, 0, scratches.count - 1);
        }

        static boolean canHaveMargin(int margin) {
            return isWithin(margin, 0, MOST_MARGIN);
        }

        int centreTurn(int letter) {
            int letters = name.letters;
            return letters > 0 ? (2 * letter + 1) * curve.turnAhead(curve.arcs) / (2 * letters) : 0;
        }

        int centreParts(int letter) {
            return curve.partsTo(centreTurn(letter));
        }

        int leftEdge(int letter) {
            return centreParts(letter) - name.partsOf(letter) / 2;
        }

        int rightEdge(int letter) {
            return centreParts(letter) + name.partsOf(letter) / 2;
        }

        int arcUnder(int letter) {
            return curve.arcAround(centreTurn(letter));
        }

        int hardnessUnder(int letter) {
            return curve.hardnessAt(centreTurn(letter));
        }

        int centresOn(int arc) {
            int centres = 0;
            for (int letter = 0; letter < name.letters; letter++) {
                if (arcUnder(letter) == arc) {
                    centres++;
                }
            }
            return centres;
        }

        /** How often that graver would slip at all planned letters; only the graver changes. */
        int slipsBy(Graver other) {
            int before = other.slips;
            for (int letter = 0; letter < name.letters; letter++) {
                int hardness = hardnessUnder(letter);
                int strokes = name.isEngraved[letter] ? 0 : name.strokesOf(letter);
                for (int i = 0; i < strokes; i++) {
                    other.reachOfStroke(hardness);
                }
            }
            return other.slips - before;
        }

        boolean canEngraveAny() {
            return curve.arcs > 0 && scratches.count <= SCRATCH_LIMIT;
        }

        boolean canEngrave(int letter) {
            return hasLetter(letter) && !name.isEngraved[letter] && canEngraveAny();
        }

        int engraveLetter(int letter) {
            int before = scratches.count;
            int hardness = hardnessUnder(letter);
            int strokes = name.strokesOf(letter);
            for (int i = 0; i < strokes; i++) {
                int reach = graver.reachOfStroke(hardness);
                if (reach > 0) {
                    scratches.add(letter, reach);
                }
            }
            name.isEngraved[letter] = true;
            return scratches.count - before;
        }

        boolean canEngravePlanned() {
            return name.engravedLetters() < name.letters && canEngraveAny();
        }

        int engravePlanned() {
            int engraved = 0;
            for (int letter = 0; letter < name.letters; letter++) {
                if (canEngrave(letter)) {
                    engraveLetter(letter);
                    engraved++;
                }
            }
            return engraved;
        }

        boolean canMend(int scratch) {
            return hasScratch(scratch) && name.mends[scratches.letters[scratch]] < MOST_MENDS;
        }

        int mendScratch(int scratch) {
            name.mends[scratches.letters[scratch]]++;
            scratches.remove(scratch);
            return scratches.count;
        }

        boolean canPolish(int letter) {
            return hasLetter(letter) && name.isEngraved[letter] && name.mends[letter] < MOST_MENDS;
        }

        int polishLetter(int letter) {
            name.isEngraved[letter] = false;
            name.mends[letter]++;
            return scratches.removeAllOf(letter);
        }
    }

    /** Arcs, one behind the other. */
    private static final class Curve {
        private final int[] radius = new int[MOST_ARCS];
        private final int[] degrees = new int[MOST_ARCS];
        private final int[] hardness = new int[MOST_ARCS];
        private final boolean[] bendsRight = new boolean[MOST_ARCS];
        private int arcs;

        void copyFrom(Curve other) {
            arcs = other.arcs;
            for (int arc = 0; arc < arcs; arc++) {
                copyArc(other, arc, arc);
            }
        }

        private void copyArc(Curve other, int from, int to) {
            radius[to] = other.radius[from];
            degrees[to] = other.degrees[from];
            hardness[to] = other.hardness[from];
            bendsRight[to] = other.bendsRight[from];
        }

        void addArc(int itsRadius, int itsDegrees, boolean isRight, int itsHardness) {
            if (arcs < MOST_ARCS) {
                radius[arcs] = itsRadius;
                degrees[arcs] = itsDegrees;
                bendsRight[arcs] = isRight;
                hardness[arcs] = itsHardness;
                arcs++;
            }
        }

        void removeArc(int arc) {
            for (int i = arc + 1; i < arcs; i++) {
                copyArc(this, i, i - 1);
            }
            arcs--;
        }

        void growByOne() {
            for (int arc = 0; arc < arcs; arc++) {
                radius[arc]++;
            }
        }

        int tenths(int arc) {
            return 10 * degrees[arc];
        }

        int turnAhead(int arc) {
            int turn = 0;
            for (int i = 0; i < arc; i++) {
                turn += 10 * degrees[i];
            }
            return turn;
        }

        int partsAhead(int arc) {
            int parts = 0;
            for (int i = 0; i < arc; i++) {
                parts += radius[i] * 10 * degrees[i];
            }
            return parts;
        }

        int wholeTurn() {
            return turnAhead(arcs);
        }

        int wholeParts() {
            return partsAhead(arcs);
        }

        int arcAround(int turn) {
            int end = 0;
            for (int arc = 0; arc < arcs; arc++) {
                end += 10 * degrees[arc];
                if (end > turn) {
                    return arc;
                }
            }
            return arcs > 0 ? arcs - 1 : NONE;
        }

        int hardnessAt(int turn) {
            int arc = arcAround(turn);
            return isWithin(arc, 0, arcs - 1) ? hardness[arc] : 0;
        }

        int partsTo(int turn) {
            int parts = 0;
            int left = turn;
            for (int arc = 0; arc < arcs; arc++) {
                int passed = Math.min(left, tenths(arc));
                parts += radius[arc] * passed;
                left -= passed;
            }
            return parts;
        }

        int headingTo(int turn) {
            int bend = 0;
            int left = turn;
            for (int arc = 0; arc < arcs; arc++) {
                int passed = Math.min(left, tenths(arc));
                bend += bendsRight[arc] ? -passed : passed;
                left -= passed;
            }
            return Math.floorMod(bend, 3600);
        }

        int turnWithin(int parts) {
            int turn = 0;
            int left = parts;
            for (int arc = 0; arc < arcs; arc++) {
                int whole = radius[arc] * tenths(arc);
                if (left < whole) {
                    return radius[arc] > 0 ? turn + left / radius[arc] : turn;
                }
                turn += tenths(arc);
                left -= whole;
            }
            return turn;
        }

        /** The bend grows or shrinks along a whole arc, so that the ends of the arcs are enough. */
        int greatestBend() {
            int greatest = 0;
            int bend = 0;
            for (int arc = 0; arc < arcs; arc++) {
                bend += bendsRight[arc] ? -tenths(arc) : tenths(arc);
                greatest = Math.max(greatest, bend);
            }
            return greatest;
        }
    }

    /** The letters, and how wide each letter of the alphabet is. */
    private static final class Name {
        private static final int USUAL_WIDTH = 4;

        private final int[] places = new int[MOST_LETTERS];
        private final boolean[] isEngraved = new boolean[MOST_LETTERS];
        private final int[] mends = new int[MOST_LETTERS];
        private final int[] widths = new int[ALPHABET];
        private int letters;

        Name() {
            clear();
        }

        void clear() {
            letters = 0;
            for (int place = 0; place < ALPHABET; place++) {
                widths[place] = USUAL_WIDTH;
            }
        }

        void copyFrom(Name other) {
            letters = other.letters;
            for (int letter = 0; letter < letters; letter++) {
                places[letter] = other.places[letter];
                isEngraved[letter] = other.isEngraved[letter];
                mends[letter] = other.mends[letter];
            }
            for (int place = 0; place < ALPHABET; place++) {
                widths[place] = other.widths[place];
            }
        }

        void addWord(Tokens tokens, int from, int to) {
            for (int i = from; i < to; i++) {
                int place = tokens.placeAt(i);
                if (letters < MOST_LETTERS && isPlace(place)) {
                    places[letters] = place;
                    isEngraved[letters] = false;
                    mends[letters] = 0;
                    letters++;
                }
            }
        }

        void widenWord(Tokens tokens, int from, int to, int width) {
            for (int i = from; i < to; i++) {
                int place = tokens.placeAt(i);
                if (isPlace(place)) {
                    widths[place] = width;
                }
            }
        }

        int partsOf(int letter) {
            return 1000 * widths[places[letter]];
        }

        int partsOfAll() {
            int parts = 0;
            for (int letter = 0; letter < letters; letter++) {
                parts += partsOf(letter);
            }
            return parts;
        }

        int strokesOf(int letter) {
            return 1 + places[letter] % MOST_STROKES;
        }

        int engravedLetters() {
            int engraved = 0;
            for (int letter = 0; letter < letters; letter++) {
                if (isEngraved[letter]) {
                    engraved++;
                }
            }
            return engraved;
        }
    }

    /** The kinds of flourishes; a NAME is its bytes, followed by zeros. */
    private static final class Kinds {
        private final int[] names = new int[MOST_KINDS * LONGEST_WORD];
        private final int[] widths = new int[MOST_KINDS];
        private final int[] worths = new int[MOST_KINDS];
        private final int[] stocks = new int[MOST_KINDS];
        private int count;

        void copyFrom(Kinds other) {
            count = other.count;
            for (int kind = 0; kind < count; kind++) {
                widths[kind] = other.widths[kind];
                worths[kind] = other.worths[kind];
                stocks[kind] = other.stocks[kind];
            }
            for (int i = 0; i < count * LONGEST_WORD; i++) {
                names[i] = other.names[i];
            }
        }

        int nameByte(int kind, int i) {
            return isWithin(i, 0, LONGEST_WORD - 1) ? names[kind * LONGEST_WORD + i] : 0;
        }

        /** Puts the word at hand where the next kind's NAME stands, which does not count yet. */
        void beginKind(Tokens tokens) {
            for (int i = 0; i < LONGEST_WORD && count < MOST_KINDS; i++) {
                int at = tokens.start + i;
                names[count * LONGEST_WORD + i] = at < tokens.end ? tokens.byteAt(at) : 0;
            }
        }

        boolean isBegunNameTaken() {
            for (int kind = 0; kind < count && count < MOST_KINDS; kind++) {
                if (isSameName(kind, count)) {
                    return true;
                }
            }
            return false;
        }

        private boolean isSameName(int one, int other) {
            for (int i = 0; i < LONGEST_WORD; i++) {
                if (nameByte(one, i) != nameByte(other, i)) {
                    return false;
                }
            }
            return true;
        }

        void endKind(int width, int itsWorth, int stock) {
            if (count < MOST_KINDS) {
                widths[count] = width;
                worths[count] = itsWorth;
                stocks[count] = stock;
                count++;
            }
        }
    }

    /** The graver and its draws. */
    private static final class Graver {
        private static final int USUAL_SHARPNESS = 50;
        private static final int USUAL_SEED = 1;

        private int sharp = USUAL_SHARPNESS;
        private int x = USUAL_SEED;
        private int slips;
        private int strokes;

        void clear() {
            sharp = USUAL_SHARPNESS;
            x = USUAL_SEED;
            slips = 0;
            strokes = 0;
        }

        void copyFrom(Graver other) {
            sharp = other.sharp;
            x = other.x;
            slips = other.slips;
            strokes = other.strokes;
        }

        static boolean canSharpenBy(int by) {
            return isWithin(by, 1, MOST_SHARPNESS);
        }

        int sharpenBy(int by) {
            sharp = Math.min(MOST_SHARPNESS, sharp + by);
            return sharp;
        }

        /** Makes a stroke; answers how far the scratch of its slip reaches, 0 without a slip. */
        int reachOfStroke(int hardness) {
            int reach = 0;
            if (sharp < hardness && nextBits() % 100 < 2 * (hardness - sharp)) {
                reach = 100 * (1 + nextBits() % 20);
                slips++;
            }
            sharp = Math.max(0, sharp - 1);
            strokes++;
            return reach;
        }

        private int nextBits() {
            x = x * 1103515245 + 12345;
            return x >>> 16;
        }
    }

    /** The scratches, as they came. */
    private static final class Scratches {
        private final int[] letters = new int[MOST_SCRATCHES];
        private final int[] reaches = new int[MOST_SCRATCHES];
        private int count;

        void copyFrom(Scratches other) {
            count = other.count;
            for (int i = 0; i < count; i++) {
                letters[i] = other.letters[i];
                reaches[i] = other.reaches[i];
            }
        }

        void add(int letter, int reach) {
            if (count < MOST_SCRATCHES) {
                letters[count] = letter;
                reaches[count] = reach;
                count++;
            }
        }

        void remove(int scratch) {
            for (int i = scratch + 1; i < count; i++) {
                letters[i - 1] = letters[i];
                reaches[i - 1] = reaches[i];
            }
            count--;
        }

        int removeAllOf(int letter) {
            int kept = 0;
            for (int i = 0; i < count; i++) {
                if (letters[i] != letter) {
                    letters[kept] = letters[i];
                    reaches[kept] = reaches[i];
                    kept++;
                }
            }
            int removed = count - kept;
            count = kept;
            return removed;
        }

        int countOf(int letter) {
            int found = 0;
            for (int i = 0; i < count; i++) {
                if (letters[i] == letter) {
                    found++;
                }
            }
            return found;
        }
    }

    /** The rooms of a plate and what fills them, as they were when it was measured or filled. */
    private static final class Layout {
        private final int[] rooms = new int[MOST_ROOMS];
        private final int[] fillings = new int[MOST_ROOMS];
        private final boolean[] isServed = new boolean[MOST_ROOMS];
        private final int[] stock = new int[MOST_KINDS];
        private int count = 1;

        void measure(Plate plate) {
            int letters = plate.name.letters;
            int from = 0;
            for (int letter = 0; letter < letters; letter++) {
                int centre = plate.centreParts(letter);
                int half = plate.name.partsOf(letter) / 2;
                rooms[letter] = centre - half - from;
                from = centre + half;
            }
            rooms[letters] = plate.curve.wholeParts() - from;
            count = letters + 1;
        }

        int crowdedRooms(int margin) {
            int set = 0;
            for (int room = 0; room < count; room++) {
                if (rooms[room] < 100 * margin) {
                    set |= 1 << room;
                }
            }
            return set;
        }

        int tightestRoom() {
            int tightest = 0;
            for (int room = 1; room < count; room++) {
                if (rooms[room] < rooms[tightest]) {
                    tightest = room;
                }
            }
            return tightest;
        }

        double meanParts() {
            int sum = 0;
            for (int room = 0; room < count; room++) {
                sum += rooms[room];
            }
            return count > 0 ? (double) sum / count : 0.0;
        }

        int letterSpoiledBy(Plate plate, int scratch) {
            int behind = plate.scratches.letters[scratch] + 1;
            boolean isSpoiling = plate.hasLetter(behind) && plate.scratches.reaches[scratch] > rooms[behind];
            return isSpoiling ? behind : NONE;
        }

        boolean isSpoiled(Plate plate, int letter) {
            for (int scratch = 0; scratch < plate.scratches.count; scratch++) {
                if (letterSpoiledBy(plate, scratch) == letter) {
                    return true;
                }
            }
            return false;
        }

        void fill(Plate plate) {
            measure(plate);
            for (int kind = 0; kind < plate.kinds.count; kind++) {
                stock[kind] = plate.kinds.stocks[kind];
            }
            for (int room = 0; room < count; room++) {
                fillings[room] = NONE;
                isServed[room] = false;
            }
            for (int i = 0; i < count; i++) {
                fillLargest(plate);
            }
        }

        private void fillLargest(Plate plate) {
            int room = largestUnserved();
            if (room != NONE) {
                isServed[room] = true;
                int kind = bestKind(plate.kinds, rooms[room] - 200 * plate.margin);
                fillings[room] = kind;
                if (kind != NONE) {
                    stock[kind]--;
                }
            }
        }

        private int largestUnserved() {
            int largest = NONE;
            for (int room = 0; room < count; room++) {
                if (!isServed[room] && (largest == NONE || rooms[room] > rooms[largest])) {
                    largest = room;
                }
            }
            return largest;
        }

        private int bestKind(Kinds kinds, int parts) {
            int best = NONE;
            for (int kind = 0; kind < kinds.count; kind++) {
                boolean isFit = stock[kind] > 0 && 1000 * kinds.widths[kind] <= parts;
                if (isFit && (best == NONE || kinds.worths[kind] > kinds.worths[best])) {
                    best = kind;
                }
            }
            return best;
        }

        int worthOfFillings(Kinds kinds) {
            int sum = 0;
            for (int room = 0; room < count; room++) {
                if (fillings[room] != NONE) {
                    sum += kinds.worths[fillings[room]];
                }
            }
            return sum;
        }
    }

    /** The bytes of the latest report; it has none before the first. */
    private static final class Report {
        private static final int MOST_SIZE = MOST_ROOMS * (LONGEST_WORD + 2) + 2 * MOST_LETTERS + MOST_SCRATCHES;

        private final byte[] bytes = new byte[MOST_SIZE];
        private int size;

        private void put(int sign) {
            if (size < MOST_SIZE) {
                bytes[size] = (byte) sign;
                size++;
            }
        }

        void putName(Kinds kinds, int kind) {
            put('(');
            for (int i = 0; i < LONGEST_WORD && kinds.nameByte(kind, i) != 0; i++) {
                put(kinds.nameByte(kind, i));
            }
            put(')');
        }

        void putLetter(Plate plate, int letter, boolean isSpoiled) {
            put((plate.name.isEngraved[letter] ? 'A' : 'a') + plate.name.places[letter]);
            if (isSpoiled) {
                put('!');
            }
            int stars = plate.scratches.countOf(letter);
            for (int i = 0; i < stars; i++) {
                put('*');
            }
        }
    }

    /** The buffer, the token at hand, and the error of the latest reading. */
    private static final class Tokens {
        private static final int END = 0;
        private static final int WORD = 1;
        private static final int NUMBER = 2;
        private static final int SIGN = 3;
        private static final int INVALID = 4;

        private final byte[] bytes = new byte[MOST_BYTES];
        private int length;
        private int kind;
        private int start;
        private int end;
        private int number;
        private int failCode;
        private int failPosition = NONE;

        void append(int fourBytes) {
            for (int shift = 24; shift >= 0; shift -= 8) {
                if (length < MOST_BYTES) {
                    bytes[length] = (byte) (fourBytes >>> shift);
                    length++;
                }
            }
        }

        int byteAt(int i) {
            return isWithin(i, 0, MOST_BYTES - 1) ? bytes[i] : 0;
        }

        int placeAt(int i) {
            return byteAt(i) - 'a';
        }

        boolean isOneWord() {
            return isWithin(length, 1, LONGEST_WORD) && endOfRun(0, 'a', 'z') == length;
        }

        private int endOfRun(int from, int least, int most) {
            int i = from;
            while (i < length && bytes[i] >= least && bytes[i] <= most) {
                i++;
            }
            return i;
        }

        private int endOfBlanks(int from) {
            int i = from;
            while (i < length && (bytes[i] == ' ' || bytes[i] == '\n')) {
                i++;
            }
            return i;
        }

        void begin() {
            failCode = 0;
            failPosition = NONE;
            end = 0;
            advance();
        }

        void advance() {
            start = endOfBlanks(end);
            int sign = byteAt(start);
            if (start >= length) {
                end = length;
                kind = END;
            } else if (isWithin(sign, 'a', 'z')) {
                end = endOfRun(start, 'a', 'z');
                kind = end - start <= LONGEST_WORD ? WORD : INVALID;
            } else if (isWithin(sign, '0', '9')) {
                end = endOfRun(start, '0', '9');
                kind = end - start <= LONGEST_NUMBER ? NUMBER : INVALID;
            } else {
                end = start + 1;
                kind = sign == ';' || sign == '(' || sign == ')' ? SIGN : INVALID;
            }
        }

        boolean isAtEnd() {
            return kind == END;
        }

        boolean isAnyWord() {
            return kind == WORD;
        }

        boolean isWord(String word) {
            if (kind != WORD || word.length() != end - start) {
                return false;
            }
            for (int i = 0; i < word.length(); i++) {
                if (word.charAt(i) != byteAt(start + i)) {
                    return false;
                }
            }
            return true;
        }

        boolean isSign(char sign) {
            return kind == SIGN && byteAt(start) == sign;
        }

        /** Tells the error at the token at hand; answers false, as all that takes tokens does then. */
        boolean fail(int code) {
            failCode = code;
            failPosition = start;
            return false;
        }

        /** Takes the word if it stands here; it is no error if it does not. */
        boolean takeIfWord(String word) {
            boolean isHere = isWord(word);
            if (isHere) {
                advance();
            }
            return isHere;
        }

        boolean takeSign(char sign) {
            if (!isSign(sign)) {
                return fail(NOT_ALLOWED);
            }
            advance();
            return true;
        }

        /** What it takes is the number then. */
        boolean takeNumber(int least, int most) {
            if (kind != NUMBER) {
                return fail(NOT_ALLOWED);
            }
            int value = 0;
            for (int i = start; i < end; i++) {
                value = 10 * value + byteAt(i) - '0';
            }
            if (!isWithin(value, least, most)) {
                return fail(OUT_OF_RANGE);
            }
            number = value;
            advance();
            return true;
        }
    }

    /** Reads texts. All that reads answers whether there was no error. */
    private static final class TextReader {
        private static final int USUAL_HARDNESS = 30;

        private boolean isSeedTold;
        private boolean isSharpTold;
        private boolean isMarginTold;

        boolean readInto(Plate plate, Tokens tokens) {
            plate.clear();
            isSeedTold = false;
            isSharpTold = false;
            isMarginTold = false;
            tokens.begin();
            for (int i = 0; i < MOST_BYTES && !tokens.isAtEnd(); i++) {
                if (!readStatement(plate, tokens) || !tokens.takeSign(';')) {
                    return false;
                }
            }
            return true;
        }

        private boolean readStatement(Plate plate, Tokens tokens) {
            if (tokens.isWord("arc")) {
                return readArc(plate.curve, tokens);
            }
            if (tokens.isWord("name")) {
                return readName(plate.name, tokens);
            }
            if (tokens.isWord("wide")) {
                return readWide(plate.name, tokens);
            }
            if (tokens.isWord("flourish")) {
                return readFlourish(plate.kinds, tokens);
            }
            if (tokens.isWord("seed")) {
                return readSeed(plate.graver, tokens);
            }
            if (tokens.isWord("sharp")) {
                return readSharp(plate.graver, tokens);
            }
            if (tokens.isWord("margin")) {
                return readMargin(plate, tokens);
            }
            return tokens.fail(NOT_ALLOWED);
        }

        private boolean readArc(Curve curve, Tokens tokens) {
            if (curve.arcs >= MOST_ARCS) {
                return tokens.fail(TOO_MANY);
            }
            tokens.advance();
            if (!tokens.takeNumber(1, MOST_RADIUS)) {
                return false;
            }
            int radius = tokens.number;
            if (!tokens.takeNumber(1, MOST_DEGREES)) {
                return false;
            }
            int degrees = tokens.number;
            boolean isRight = tokens.takeIfWord("right");
            int hardness = USUAL_HARDNESS;
            if (tokens.takeIfWord("hard")) {
                if (!tokens.takeNumber(0, MOST_HARDNESS)) {
                    return false;
                }
                hardness = tokens.number;
            }
            curve.addArc(radius, degrees, isRight, hardness);
            return true;
        }

        private boolean readName(Name name, Tokens tokens) {
            tokens.advance();
            if (!tokens.isAnyWord()) {
                return tokens.fail(NOT_ALLOWED);
            }
            if (name.letters + tokens.end - tokens.start > MOST_LETTERS) {
                return tokens.fail(TOO_MANY);
            }
            name.addWord(tokens, tokens.start, tokens.end);
            tokens.advance();
            return true;
        }

        private boolean readWide(Name name, Tokens tokens) {
            tokens.advance();
            if (!tokens.isAnyWord()) {
                return tokens.fail(NOT_ALLOWED);
            }
            int from = tokens.start;
            int to = tokens.end;
            tokens.advance();
            if (!tokens.takeNumber(1, MOST_WIDTH)) {
                return false;
            }
            name.widenWord(tokens, from, to, tokens.number);
            return true;
        }

        private boolean readFlourish(Kinds kinds, Tokens tokens) {
            if (kinds.count >= MOST_KINDS) {
                return tokens.fail(TOO_MANY);
            }
            tokens.advance();
            if (!tokens.isAnyWord()) {
                return tokens.fail(NOT_ALLOWED);
            }
            kinds.beginKind(tokens);
            if (kinds.isBegunNameTaken()) {
                return tokens.fail(NOT_AGAIN);
            }
            tokens.advance();
            if (!tokens.takeNumber(1, MOST_WIDTH)) {
                return false;
            }
            int width = tokens.number;
            if (!tokens.takeNumber(1, MOST_WORTH)) {
                return false;
            }
            int itsWorth = tokens.number;
            if (!tokens.takeNumber(1, MOST_STOCK)) {
                return false;
            }
            kinds.endKind(width, itsWorth, tokens.number);
            return true;
        }

        private boolean readSeed(Graver graver, Tokens tokens) {
            if (isSeedTold) {
                return tokens.fail(NOT_AGAIN);
            }
            isSeedTold = true;
            tokens.advance();
            if (!tokens.takeNumber(0, MOST_NUMBER)) {
                return false;
            }
            graver.x = tokens.number;
            return true;
        }

        private boolean readSharp(Graver graver, Tokens tokens) {
            if (isSharpTold) {
                return tokens.fail(NOT_AGAIN);
            }
            isSharpTold = true;
            tokens.advance();
            if (!tokens.takeNumber(1, MOST_SHARPNESS)) {
                return false;
            }
            graver.sharp = tokens.number;
            return true;
        }

        private boolean readMargin(Plate plate, Tokens tokens) {
            if (isMarginTold) {
                return tokens.fail(NOT_AGAIN);
            }
            isMarginTold = true;
            tokens.advance();
            if (!tokens.takeNumber(0, MOST_MARGIN)) {
                return false;
            }
            plate.margin = tokens.number;
            return true;
        }
    }

    /**
     * The steps of the script that was read last: its commands, and an end behind the commands of each "repeat".
     * The number of an end is the step of its "repeat".
     */
    private static final class Script {
        private static final int MOST_COMMANDS = 30;
        private static final int MOST_STEPS = 2 * MOST_COMMANDS;
        private static final int MOST_DONE = 40;
        private static final int MOST_TIMES = 20;
        private static final int MOST_DEPTH = 2;

        /** Far above what empty parentheses in parentheses can need. */
        private static final int MOST_STEPS_RUN = 1000000;

        private static final int ENGRAVE = 0;
        private static final int ALL = 1;
        private static final int MEND = 2;
        private static final int POLISH = 3;
        private static final int SHARPEN = 4;
        private static final int MARGIN = 5;
        private static final int REPEAT = 6;
        private static final int END = 7;

        private final int[] steps = new int[MOST_STEPS];
        private final int[] numbers = new int[MOST_STEPS];
        private final int[] rounds = new int[MOST_STEPS];
        private final int[] open = new int[MOST_DEPTH];
        private int size;
        private int commands;
        private int depth;

        boolean readFrom(Tokens tokens) {
            size = 0;
            commands = 0;
            depth = 0;
            tokens.begin();
            for (int i = 0; i < MOST_BYTES && !tokens.isAtEnd(); i++) {
                boolean isRead = depth > 0 && tokens.isSign(')') ? readEnd(tokens) : readCommand(tokens);
                if (!isRead) {
                    return false;
                }
            }
            return depth == 0 || tokens.fail(NOT_ALLOWED);
        }

        private boolean readCommand(Tokens tokens) {
            int command = commandAt(tokens);
            if (command == NONE) {
                return tokens.fail(NOT_ALLOWED);
            }
            if (command == REPEAT && depth >= MOST_DEPTH) {
                return tokens.fail(NOT_AGAIN);
            }
            if (commands >= MOST_COMMANDS) {
                return tokens.fail(TOO_MANY);
            }
            commands++;
            tokens.advance();
            if (command == REPEAT) {
                return readRepeat(tokens);
            }
            if (command != ALL && !tokens.takeNumber(0, MOST_NUMBER)) {
                return false;
            }
            addStep(command, tokens.number);
            return tokens.takeSign(';');
        }

        private boolean readRepeat(Tokens tokens) {
            if (!tokens.takeNumber(1, MOST_TIMES)) {
                return false;
            }
            if (depth < MOST_DEPTH) {
                open[depth] = size;
                depth++;
            }
            addStep(REPEAT, tokens.number);
            return tokens.takeSign('(');
        }

        private boolean readEnd(Tokens tokens) {
            if (depth > 0) {
                depth--;
                addStep(END, open[depth]);
            }
            tokens.advance();
            return tokens.takeSign(';');
        }

        private void addStep(int step, int number) {
            if (size < MOST_STEPS) {
                steps[size] = step;
                numbers[size] = number;
                size++;
            }
        }

        private static int commandAt(Tokens tokens) {
            if (tokens.isWord("engrave")) {
                return ENGRAVE;
            }
            if (tokens.isWord("all")) {
                return ALL;
            }
            if (tokens.isWord("mend")) {
                return MEND;
            }
            if (tokens.isWord("polish")) {
                return POLISH;
            }
            if (tokens.isWord("sharpen")) {
                return SHARPEN;
            }
            if (tokens.isWord("margin")) {
                return MARGIN;
            }
            return tokens.isWord("repeat") ? REPEAT : NONE;
        }

        /** Answers how many commands were done. */
        int runOn(Plate plate) {
            int done = 0;
            int at = 0;
            for (int i = 0; i < MOST_STEPS_RUN && at < size && done < MOST_DONE; i++) {
                if (steps[at] == REPEAT) {
                    rounds[at] = numbers[at];
                    at++;
                } else if (steps[at] == END) {
                    at = stepBehindEnd(at);
                } else if (isDone(plate, steps[at], numbers[at])) {
                    done++;
                    at++;
                } else {
                    return done;
                }
            }
            return done;
        }

        private int stepBehindEnd(int at) {
            int repeat = numbers[at];
            rounds[repeat]--;
            return rounds[repeat] > 0 ? repeat + 1 : at + 1;
        }

        /** Does the command, unless its method would throw. */
        private static boolean isDone(Plate plate, int command, int n) {
            switch (command) {
                case ENGRAVE:
                    if (!plate.canEngrave(n)) {
                        return false;
                    }
                    plate.engraveLetter(n);
                    return true;
                case ALL:
                    if (!plate.canEngravePlanned()) {
                        return false;
                    }
                    plate.engravePlanned();
                    return true;
                case MEND:
                    if (!plate.canMend(n)) {
                        return false;
                    }
                    plate.mendScratch(n);
                    return true;
                case POLISH:
                    if (!plate.canPolish(n)) {
                        return false;
                    }
                    plate.polishLetter(n);
                    return true;
                case SHARPEN:
                    if (!Graver.canSharpenBy(n)) {
                        return false;
                    }
                    plate.graver.sharpenBy(n);
                    return true;
                default:
                    if (!Plate.canHaveMargin(n)) {
                        return false;
                    }
                    plate.margin = n;
                    return true;
            }
        }
    }
}
