import java.util.NoSuchElementException;

/** Promises 1 to 4 at their boundaries: a function for each sentence of the document that names one. */
public final class TextBoundaryTests {
    private static final String SQUARE = "plane;at 0 0 4 0 4 4 0 4;";
    /** A text with words and numbers of more than one sign each. */
    private static final String WIDE = "plane;at 0 0 140 0 140 140;at 0 140;flip 0 2;flip 01 3;";
    private static final String TWENTY = "plane;at 0 0 1 0 2 0 3 0 4 0 5 0 6 0 7 0 8 0 9 0 10 0 11 0 12 0 13 0 14 0"
            + " 15 0 16 0 17 0 18 0 19 0;";
    private static final int SPACES = 0x20202020;

    public static void main(String[] args) {
        newAnswers();
        newThrows();
        newChanges();
        objectsApart();
        appendFull();
        appendOrder();
        appendEachByte();
        appendBehindLoad();
        lengthWrong();
        lengthLess();
        emptyText();
        errorLeavesData();
        loadReplaces();
        loadIsChange();
        pointsReturned();
        numberOfAnyLength();
        runsAsLongAsPossible();
        spaces();
        otherBytes();
        everyByte();
        wordsAreExact();
        placesInPairs();
        flipsOfTwo();
        textEndsTooEarly();
        wrongSignInside();
        atBehindFlip();
        rangeOfPlaces();
        rangeOfFlips();
        taken();
        tooMany();
        refused();
        flipsAsItIsThen();
        smallestOffset();
        sameOffset();
        errorOffsetStays();
        Check.close("TextBoundaryTests");
    }

    // ---- Promise 1

    // "Creates an object as by the text "plane;", with an empty input buffer."
    private static void newAnswers() {
        for (CircleFlips flips : new CircleFlips[] {new CircleFlips(), Check.loaded("plane;")}) {
            int changes = flips.state(9);
            Check.same("1: states", Told.states(flips), "0 0 0 0 0 0 0 0 0 " + changes + " 0 0");
            Check.same("1: places asked", Check.row(flips.at(0, 0), flips.at(-1000, 1000), flips.hit(0, 0)), "-1 -1 0");
            Check.same("1: sums", flips.lift() + " " + flips.tree() + " " + flips.checksum(), "0 0 0");
            Check.same("1: share", flips.share(), 0.0f);
            Check.same("1: errorOffset()", flips.errorOffset(), -1);
        }
        Check.same("1: nothing to undo", new CircleFlips().undo(), -1);
        Check.same("1: nothing to mend", new CircleFlips().mend(500), 0);
    }

    private static void newThrows() {
        CircleFlips flips = new CircleFlips();
        Check.outside("1: point", flips, () -> flips.point(0, 0));
        Check.outside("1: triangle of the drawing", flips, () -> flips.triangle(0, false, 0));
        Check.outside("1: due triangle", flips, () -> flips.triangle(0, true, 0));
        Check.outside("1: circle", flips, () -> flips.circle(0, 0, 0, 0));
        Check.outside("1: why", flips, () -> flips.why(0, 0));
        Check.outside("1: centre", flips, () -> flips.centre(0, true));
        Check.outside("1: roundness", flips, () -> flips.roundness(0));
        Check.outside("1: take", flips, () -> flips.take(0));
        Check.outside("1: move", flips, () -> flips.move(0, 0, 0));
        Check.outside("1: flip", flips, () -> flips.flip(0, 0));
        Check.thrown("1: badEdge", flips, NoSuchElementException.class, flips::badEdge);
        Check.thrown("1: corner", flips, NoSuchElementException.class, () -> flips.corner(0));
        Check.illegal("1: the buffer is empty", flips, () -> flips.load(1));
        Check.illegal("1: and not less", flips, () -> flips.load(-1));
    }

    // "Before the first successful load all is as by the text "plane;"."
    private static void newChanges() {
        CircleFlips flips = new CircleFlips();
        Check.same("3: no successful load", Check.load(flips, "plane"), -2);
        Check.same("1: states", Told.states(flips), "0 0 0 0 0 0 0 0 0 0 0 0");
        CircleFlips loaded = Check.loaded("plane;");
        for (CircleFlips each : new CircleFlips[] {flips, loaded}) {
            Check.same("1: points are put", Check.row(each.put(0, 5), each.put(20, 5), each.put(10, 0), each.put(10, 10)),
                    "0 1 2 3");
            Check.same("1: flipped and mended", Check.row(each.flip(2, 3), each.mend(9)), "1 1");
            Check.same("1: flips, and points that were put", Check.row(each.state(10), each.state(11)), "2 4");
        }
        Check.same("1: the same", flips.checksum(), loaded.checksum());
    }

    private static void objectsApart() {
        CircleFlips first = Check.loaded(SQUARE);
        CircleFlips second = new CircleFlips();
        first.append(SPACES, SPACES, SPACES, SPACES, SPACES);
        Check.illegal("1: another object's buffer", second, () -> second.load(1));
        second.put(9, 9);
        Check.same("1: another object's points", Check.row(first.state(0), second.state(0)), "4 1");
        Check.same("1: another object's changes", Check.row(first.undo(), first.undo(), second.undo()), "0 -1 0");
    }

    // ---- Promise 2

    // "Returns the new length of the buffer; -1 if it would exceed 400 bytes, and the buffer is unchanged then."
    private static void appendFull() {
        CircleFlips flips = new CircleFlips();
        String text = "plane;" + " ".repeat(377) + "at 200 199 31 7 ;";
        Check.same("2: a text of 400 bytes", text.length(), 400);
        for (int i = 0; i < 20; i++) {
            int[] words = ModelTests.words(text, 20 * i);
            Check.same("2: the new length", flips.append(words[0], words[1], words[2], words[3], words[4]), 20 * i + 20);
        }
        for (int i = 0; i < 3; i++) {
            Check.same("2: it would exceed 400", flips.append(0, 0, 0, 0, 0), -1);
        }
        Check.illegal("2: no longer than 400", flips, () -> flips.load(401));
        Check.same("2: unchanged, and read to its last byte", flips.load(400), 2);
        Check.same("2: the places", Told.places(flips), "200 31 / 199 7");
        Check.same("2: a text of 399 bytes", Check.load(flips, " ".repeat(393) + "plane;"), 0);
        Check.append(flips, " ".repeat(394) + "plane");
        Check.same("2: the last byte is missing", Check.row(flips.load(399), flips.errorOffset()), "-2 399");
    }

    // "the 4 bytes of each argument, the most significant byte first"
    private static void appendOrder() {
        CircleFlips flips = new CircleFlips();
        Check.same("2: 20 bytes", flips.append(0x706c616e, 0x653b6174, 0x20313220, 0x33342035, 0x3620373b), 20);
        Check.same("2: all of them", flips.load(20), 2);
        Check.same("2: their order", Told.places(flips), "12 56 / 34 7");
    }

    private static void appendEachByte() {
        for (int place = 0; place < 20; place++) {
            for (int sign : new int[] {0x00, 0x7f, 0x80, 0xa0, 0xff}) {
                int[] words = {SPACES, SPACES, SPACES, SPACES, SPACES};
                int shift = 24 - place % 4 * 8;
                words[place / 4] = SPACES & ~(255 << shift) | sign << shift;
                CircleFlips flips = new CircleFlips();
                flips.append(words[0], words[1], words[2], words[3], words[4]);
                Check.same("2: byte " + sign + " at " + place, Check.row(flips.load(20), flips.errorOffset()), "-2 " + place);
            }
        }
    }

    // "The input buffer is empty afterwards, also if the text has an error."
    private static void appendBehindLoad() {
        CircleFlips flips = new CircleFlips();
        for (String text : new String[] {"plane;", "plane", ";", "plane;at 201 0;", SQUARE, SQUARE + "flip 0 1;"}) {
            for (int i = 0; i < 20; i++) {
                flips.append(SPACES, SPACES, SPACES, SPACES, SPACES);
            }
            flips.load(400);
            Check.load(flips, text);
            Check.same("2: from the start again, behind " + text, flips.append(0x3b3b3b3b, 0, 0, 0, 0), 20);
            Check.same("3: with these bytes", Check.row(flips.load(1), flips.errorOffset()), "-2 0");
        }
    }

    // ---- Promise 3

    // "if length is negative or greater than the length of the buffer; the buffer is unchanged then"
    private static void lengthWrong() {
        int[] wrong = {-1, -20, Integer.MIN_VALUE, Integer.MAX_VALUE, 1, 2, 400, 401};
        CircleFlips none = new CircleFlips();
        for (int length : wrong) {
            Check.illegal("3: load(" + length + ") of 0", none, () -> none.load(length));
        }
        CircleFlips flips = Check.loaded(SQUARE);
        Check.load(flips, "plane;!");
        Check.append(flips, "plane;at 1 2       ;");
        for (int length : new int[] {-1, 21, 40, 400, 401, Integer.MIN_VALUE, Integer.MAX_VALUE}) {
            Check.illegal("3: load(" + length + ") of 20", flips, () -> flips.load(length));
        }
        Check.same("3: the buffer is unchanged", flips.load(20), 1);
    }

    // "Reads the first bytes of the input buffer as a setup text"; "length: the number of bytes to read"
    private static void lengthLess() {
        String text = "plane;at 1 2 30 45 ;";
        int[] due = {-2, 0, -2, 2, -2};
        int[] lengths = {5, 6, 12, 20, 18};
        for (int i = 0; i < lengths.length; i++) {
            CircleFlips flips = new CircleFlips();
            Check.append(flips, text);
            Check.same("3: the first " + lengths[i], flips.load(lengths[i]), due[i]);
            Check.same("4: the end of the text", flips.errorOffset(), due[i] < 0 ? lengths[i] : -1);
            Check.illegal("3: the others are gone", flips, () -> flips.load(1));
        }
        cutByLength();
    }

    /** A length ends a word or a number, also if its next byte would go on with it. */
    private static void cutByLength() {
        String text = "plane;at 12 34;flip 0";
        for (int length = 0; length <= text.length(); length++) {
            CircleFlips flips = new CircleFlips();
            Check.append(flips, text);
            boolean isWhole = length == 6 || length == 15;
            int word = length < 5 ? 0 : length == 7 ? 6 : length > 15 && length < 19 ? 15 : -1;
            Check.same("3: the first " + length, flips.load(length), isWhole ? length / 15 : -2);
            Check.same("4: of the first " + length, flips.errorOffset(), isWhole ? -1 : word >= 0 ? word : length);
            Check.same("2: the next text", Check.row(Check.load(flips, "plane;at 1 2;"), flips.point(0, 1)), "1 2");
        }
    }

    // "An empty text has a SYNTAX_ERROR."
    private static void emptyText() {
        CircleFlips flips = new CircleFlips();
        Check.same("3: load(0) of nothing", Check.row(flips.load(0), flips.errorOffset()), "-2 0");
        Check.append(flips, SQUARE);
        Check.same("3: load(0) of a text", Check.row(flips.load(0), flips.errorOffset(), flips.state(0)), "-2 0 0");
        Check.illegal("3: that is gone", flips, () -> flips.load(1));
        Check.fails("", -2, 0);
        Check.fails(" ", -2, 1);
        Check.fails(" ".repeat(400), -2, 400);
    }

    // "An error leaves all other data unchanged."
    private static void errorLeavesData() {
        String[] texts = {"", "plane;at 1 1;;", "plane;at 0 0 9 9 201 0;", "plane;at 5 5 6 6 5 5;",
            TWENTY.replace(";at", "; at") + "at 8 8;", SQUARE + "flip 0 2;flip 0 2;", SQUARE + "flip 0 2;flip 4 0;"};
        int[] codes = {-2, -2, -3, -4, -5, -6, -3};
        CircleFlips flips = Check.loaded("plane;at 0 5 20 5 10 0 10 10;flip 2 3;");
        flips.put(11, 9);
        flips.move(4, 12, 9);
        flips.flip(2, 3);
        flips.undo();
        String states = Told.states(flips);
        long sum = flips.checksum();
        for (int i = 0; i < texts.length; i++) {
            Check.same("3: an error, " + texts[i], Check.load(flips, texts[i]), codes[i]);
            Check.same("3: all other data", flips.checksum(), sum);
            Check.same("3: and the changes", Told.states(flips), states);
        }
        Check.same("3: they can be undone as before", Check.row(flips.undo(), flips.undo(), flips.state(0), flips.state(6)),
                "2 1 4 1");
        Check.same("3: the first of them too", Check.row(flips.undo(), flips.undo(), flips.state(0)), "0 -1 0");
    }

    // "replaces all data by it"; "flips that were done since the latest load"; "points that were put since then"
    private static void loadReplaces() {
        CircleFlips flips = Check.loaded(SQUARE);
        flips.flip(0, 2);
        flips.put(2, 1);
        flips.flip(2, 4);
        flips.mend(500);
        Check.load(flips, "plane;at 9 9 8 7;");
        Check.same("3: fewer points", Told.states(flips), "2 0 0 0 0 0 0 2 1 6 0 0");
        Check.same("3: their places", Told.places(flips), "9 8 / 9 7");
        Check.load(flips, "plane;");
        Check.same("3: none", Told.states(flips), "0 0 0 0 0 0 0 0 0 7 0 0");
        Check.outside("3: none at all", flips, () -> flips.point(0, 0));
        Check.load(flips, SQUARE + "flip 0 2;flip 1 3;flip 2 0;");
        Check.same("3: with flips", Told.states(flips), "4 2 5 4 0 2 1 4 1 8 3 0");
        Check.load(flips, SQUARE);
        Check.same("3: the drawing is that of the due triangles", Told.states(flips), "4 2 5 4 0 2 0 4 1 8 0 0");
    }

    // "load (when it succeeds)" is a change, "also if all data stay as they were"
    private static void loadIsChange() {
        CircleFlips flips = new CircleFlips();
        Check.load(flips, "plane;");
        Check.same("3: a change of nothing", flips.state(9), 1);
        Check.load(flips, "plane;!");
        Check.same("3: an error is none", flips.state(9), 1);
        Check.load(flips, "plane;at 3 3;");
        Check.same("3: the second one", Check.row(flips.state(9), flips.undo(), flips.state(0), flips.undo(), flips.undo()),
                "2 1 0 0 -1");
    }

    // "Returns the number of points"
    private static void pointsReturned() {
        StringBuilder text = new StringBuilder("plane;");
        for (int points = 0; points <= 20; points++) {
            Check.loads(text.toString(), points);
            text.append("at ").append(10 * points).append(' ').append(points * points % 11).append(';');
        }
        Check.fails(text.toString(), -5, text.length() - 6);
    }

    // "A number is a run of decimal digits, of any length (leading zeros do not matter)"
    private static void numberOfAnyLength() {
        String zeros = "0".repeat(384);
        Check.loads("plane;at " + zeros + "0 1;", 1);
        Check.loads("plane;at " + zeros.substring(3) + "200 1;", 1);
        Check.loads("plane;at 1 " + zeros.substring(3) + "200;", 1);
        Check.fails("plane;at " + zeros.substring(3) + "201 1;", -3, 9);
        Check.fails("plane;at 1 " + zeros.substring(3) + "201;", -3, 11);
        Check.fails("plane;at " + "9".repeat(385) + " 1;", -3, 9);
        Check.fails("plane;at 1" + zeros + " 1;", -3, 9);
        Check.fails("plane;at 1 1" + zeros + ";", -3, 11);
        Check.loads(SQUARE + "flip " + zeros.substring(24) + "0 " + "2;", 4);
        Check.loads(SQUARE + "flip 0 " + zeros.substring(24) + "2;", 4);
        Check.fails(SQUARE + "flip 0 2" + zeros.substring(24) + ";", -3, 32);
        String[] wrapping = {"256", "257", "1000", "1001", "1200", "2000", "10000", "65536", "65538", "2147483648", "4294967295",
            "4294967296", "4294967298", "9223372036854775808", "18446744073709551616", "18446744073709551618",
            "340282366920938463463374607431768211456"};
        for (String number : wrapping) {
            Check.fails("plane;at " + number + " 7;", -3, 9);
            Check.fails("plane;at 7 " + number + ";", -3, 11);
            Check.fails(SQUARE + "flip " + number + " 2;", -3, 30);
            Check.fails(SQUARE + "flip 0 " + number + ";", -3, 32);
        }
        CircleFlips flips = Check.loaded("plane;at 000 00200 0123 010;");
        Check.same("3: zeros do not matter", Told.places(flips), "0 123 / 200 10");
    }

    // "Each run is as long as possible."
    private static void runsAsLongAsPossible() {
        Check.fails("planeat 0 0;", -2, 0);
        Check.fails("planeplane;", -2, 0);
        Check.fails("plane;atat 0 0;", -2, 6);
        Check.fails("plane;atflip 0 0;", -2, 6);
        Check.fails(SQUARE + "flipat 0 2;", -2, 25);
        Check.fails("plane;at 0 0at 1 1;", -2, 12);
        Check.fails(SQUARE + "flip 0 2flip 1 3;", -2, 33);
        CircleFlips flips = Check.loaded("plane;at12 3;at4 56;");
        Check.same("3: digits as long as possible", Told.places(flips), "12 4 / 3 56");
        Check.fails("plane;at 1234;", -3, 9);
        Check.fails("plane;at 12;", -2, 11);
        Check.fails(SQUARE + "flip 02;", -2, 32);
    }

    // "Spaces (byte 32) may precede any token and may follow the last one; they are needed only between two numbers."
    private static void spaces() {
        Check.loads("plane;at0 0 4 0 4 4 0 4;flip0 2;flip1 3;", 4);
        String[] tokens = {"plane", ";", "at", "0", "0", "4", "0", "4", "4", "0", "4", ";", "flip", "0", "2", ";", "flip", "1",
                "3", ";"};
        for (int wide = 0; wide <= tokens.length; wide++) {
            StringBuilder text = new StringBuilder();
            for (int i = 0; i < tokens.length; i++) {
                boolean isBetweenNumbers = i > 0 && isNumber(tokens[i]) && isNumber(tokens[i - 1]);
                text.append(i == wide ? "   " : isBetweenNumbers ? " " : "").append(tokens[i]);
            }
            text.append(wide == tokens.length ? "   " : "");
            Check.loads(text.toString(), 4);
        }
        Check.loads(String.join("  ", tokens) + " ", 4);
        for (String word : new String[] {"p lane", "pl ane", "plan e"}) {
            Check.fails(word + ";at 0 0;", -2, 0);
        }
        Check.fails("plane;a t 0 0;", -2, 6);
        Check.fails(SQUARE + "fl ip 0 2;", -2, 25);
    }

    private static boolean isNumber(String token) {
        return token.charAt(0) >= '0' && token.charAt(0) <= '9';
    }

    // "No other byte separates tokens."
    private static void otherBytes() {
        for (char other : new char[] {'\t', '\n', '\r', '\f', 11, 0, 31, 33, ',', '_', 127, 128, 133, 160, 255}) {
            Check.fails(other + "plane;", -2, 0);
            Check.fails("plane" + other + ";", -2, 5);
            Check.fails("plane;" + other, -2, 6);
            Check.fails("plane;at" + other + "0 0;", -2, 8);
            Check.fails("plane;at 0" + other + "0;", -2, 10);
            Check.fails("plane;at 0 0" + other + "0 1;", -2, 12);
            Check.fails(SQUARE + "flip 0" + other + "2;", -2, 31);
            Check.fails(SQUARE + "flip 0 2" + other + ";", -2, 33);
        }
    }

    /** Each byte as what follows the first statement, and as what stands between two numbers. */
    private static void everyByte() {
        for (char sign = 0; sign < 256; sign++) {
            boolean isDigit = sign >= '0' && sign <= '9';
            if (sign == ' ') {
                Check.loads("plane;" + sign, 0);
                Check.loads("plane;at 1 0" + sign + "3 4;", 2);
            } else {
                Check.fails("plane;" + sign, -2, 6);
                Check.fails("plane;at 1 0" + sign + "3 4;", -2, isDigit ? 16 : sign == ';' ? 13 : 12);
            }
        }
    }

    // "a token .. that the grammar does not allow here, at its first byte"
    private static void wordsAreExact() {
        String[] notPlane = {"p", "plan", "plain", "planes", "PLANE", "Plane", "xplane", "planez", "planea", "at", "flip", "7",
                ";"};
        for (String word : notPlane) {
            Check.fails(word + ";", -2, 0);
        }
        Check.fails("plane0;", -2, 5);
        String[] neither = {"a", "t", "ta", "ats", "bat", "aa", "tt", "At", "aT", "atz", "ata", "zat", "aat", "plane", "f", "fli",
            "flipp", "flipz", "flipa", "flop", "flap", "slip", "xflip", "FLIP", "7", "0", ";", "z"};
        for (String word : neither) {
            Check.fails("plane;" + word + " 0 0;", -2, 6);
            Check.fails("plane;at 0 0;  " + word + " 1 1;", -2, 15);
        }
    }

    // "at" number number { number number }
    private static void placesInPairs() {
        Check.fails("plane;at;", -2, 8);
        Check.fails("plane;at ;", -2, 9);
        Check.fails("plane;at 1;", -2, 10);
        Check.fails("plane;at 1 2 3;", -2, 14);
        Check.fails("plane;at 1 2 3 4 5 ;", -2, 19);
        Check.fails("plane;at 1 2 at 3 4;", -2, 13);
        Check.fails("plane;at 1 at 2;", -2, 11);
        Check.fails("plane;at 1 2 flip;", -2, 13);
        Check.fails("plane;at 1 2;3 4;", -2, 13);
        Check.loads("plane;at 1 2;at 3 4;at 5 6 7 8;at 9 9;", 5);
    }

    // "flip" number number
    private static void flipsOfTwo() {
        Check.fails(SQUARE + "flip;", -2, 29);
        Check.fails(SQUARE + "flip 0;", -2, 31);
        Check.fails(SQUARE + "flip 0 ;", -2, 32);
        Check.fails(SQUARE + "flip 0 2 1 3;", -2, 34);
        Check.fails(SQUARE + "flip 0 2 3;", -2, 34);
        Check.fails(SQUARE + "flip 0 2;1 3;", -2, 34);
        Check.fails(SQUARE + "flip 0 at;", -2, 32);
        Check.fails(SQUARE + "flip 0 2;;", -2, 34);
        Check.loads(SQUARE + "flip 0 2;flip 1 3;", 4);
    }

    // "the end of the text, at its length, if the text ends too early"
    private static void textEndsTooEarly() {
        for (int end = 0; end < WIDE.length(); end++) {
            String text = WIDE.substring(0, end);
            boolean isWhole = end > 0 && WIDE.charAt(end - 1) == ';';
            int word = wordStart(end);
            if (isWhole) {
                Check.loads(text, end < 9 ? 0 : end < 29 ? 3 : 4);
            } else {
                Check.fails(text, -2, word >= 0 ? word : end);
                Check.fails(text + "  ", -2, word >= 0 ? word : end + 2);
            }
        }
        Check.loads(WIDE, 4);
    }

    /** The start of the word that a place cuts in two; -1 if it cuts none. */
    private static int wordStart(int place) {
        if (place == 0 || place == WIDE.length() || !Character.isLetter(WIDE.charAt(place))) {
            return -1;
        }
        int start = place;
        while (start > 0 && Character.isLetter(WIDE.charAt(start - 1))) {
            start--;
        }
        return start < place ? start : -1;
    }

    // "a token or byte that the grammar does not allow here, at its first byte"
    private static void wrongSignInside() {
        for (int place = 0; place <= WIDE.length(); place++) {
            int word = wordStart(place);
            for (String sign : new String[] {"!", "-", "."}) {
                Check.fails(WIDE.substring(0, place) + sign + WIDE.substring(place), -2, word >= 0 ? word : place);
            }
        }
    }

    // "No at can stand behind a flip."; "an at behind a flip, at its first letter"
    private static void atBehindFlip() {
        Check.fails(SQUARE + "flip 0 2;at 9 9;", -2, 34);
        Check.fails(SQUARE + "flip 0 2;   at 9 9;", -2, 37);
        Check.fails(SQUARE + "flip 0 2;flip 1 3;at 9 9;", -2, 43);
        Check.fails(SQUARE + "flip 0 2;at 0 0;", -2, 34);
        Check.fails(SQUARE + "flip 0 2;at 201 0;", -2, 34);
        Check.fails(SQUARE + "flip 0 2;at;", -2, 34);
        Check.fails(SQUARE + "flip 0 2;at", -2, 34);
        Check.fails(SQUARE + "flip 0 2;at 9 9;flip 0 2;", -2, 34);
        Check.loads(SQUARE + "at 9 9;flip 0 2;", 5);
    }

    // "Those of at are .. places" (0 to 200); "OUT_OF_RANGE: a number outside its range, at its first digit"
    private static void rangeOfPlaces() {
        Check.loads("plane;at 0 0 200 0 0 200 200 200;", 4);
        Check.fails("plane;at 201 0;", -3, 9);
        Check.fails("plane;at 200 201;", -3, 13);
        Check.fails("plane;at   00201 0;", -3, 11);
        Check.fails("plane;at 0   00201;", -3, 13);
        Check.fails("plane;at 0 0 201 0;", -3, 13);
        Check.fails("plane;at 0 0;at 1 1 200 999;", -3, 24);
        Check.fails("plane;at 201", -3, 9);
        Check.fails("plane;at 201 x", -3, 9);
        Check.fails("plane;at 0 201x", -3, 11);
    }

    // "OUT_OF_RANGE: a number outside its range (of flip: that is no point), at its first digit"
    private static void rangeOfFlips() {
        Check.fails("plane;flip 0 0;", -3, 11);
        Check.fails("plane;flip 0", -3, 11);
        Check.fails("plane;at 5 5;flip 0 1;", -3, 20);
        Check.fails("plane;at 5 5;flip 1 0;", -3, 18);
        Check.fails("plane;at 5 5;flip 1 1;", -3, 18);
        Check.fails(SQUARE + "flip 3 4;", -3, 32);
        Check.fails(SQUARE + "flip 4 3;", -3, 30);
        Check.fails(SQUARE + "flip   04 3;", -3, 32);
        Check.fails(SQUARE + "flip 0 200;", -3, 32);
        Check.fails(SQUARE + "flip 0 2;flip 1 4;", -3, 41);
        Check.fails(TWENTY + "flip 20 0;", -3, TWENTY.length() + 5);
        Check.fails(TWENTY + "flip 0 20;", -3, TWENTY.length() + 7);
        Check.fails(TWENTY + "flip 19 19;", -6, TWENTY.length() + 8);
    }

    // "TAKEN: a place at which a point is already, at the first digit of its y"
    private static void taken() {
        Check.fails("plane;at 0 0 0 0;", -4, 15);
        Check.fails("plane;at 0 0;at 0 0;", -4, 18);
        Check.fails("plane;at 5 6 7 8 5 6;", -4, 19);
        Check.fails("plane;at 5 6 7 8 07   0008;", -4, 22);
        Check.fails("plane;at 200 200 200 200;", -4, 21);
        Check.fails("plane;at 5 6 5 6", -4, 15);
        Check.fails("plane;at 5 6 5 6x", -4, 15);
        Check.loads("plane;at 5 6 6 5 5 5 6 6;", 4);
        String nineteen = TWENTY.replace(" 19 0;", "");
        Check.fails(nineteen + " 18 0;", -4, nineteen.length() + 4);
        Check.fails(nineteen + " 0 0;", -4, nineteen.length() + 3);
    }

    // "TOO_MANY: a 21st point, at the first digit of its x"
    private static void tooMany() {
        String open = TWENTY.substring(0, TWENTY.length() - 1);
        Check.loads(TWENTY, 20);
        Check.fails(open + " 20 0;", -5, open.length() + 1);
        Check.fails(open + "   0020 0;", -5, open.length() + 3);
        Check.fails(TWENTY + "at 20 0;", -5, TWENTY.length() + 3);
        Check.fails(TWENTY + "at20 0 21 0;", -5, TWENTY.length() + 2);
        Check.fails(TWENTY + "at;", -2, TWENTY.length() + 2);
        Check.fails(TWENTY + "at x", -2, TWENTY.length() + 3);
        Check.loads(TWENTY + "  ", 20);
    }

    // "REFUSED: a flip that is refused, at the first digit of its second number", for each of the reasons
    private static void refused() {
        Check.fails(SQUARE + "flip 1 3;", -6, 32);
        Check.fails(SQUARE + "flip 0 0;", -6, 32);
        Check.fails(SQUARE + "flip 3   0003;", -6, 34);
        Check.fails(SQUARE + "flip 0 1;", -6, 32);
        Check.fails(SQUARE + "flip 3 2", -6, 32);
        Check.fails("plane;at 0 0 8 0 2 2 0 8;flip 0 2;", -6, 32);
        Check.fails("plane;at 0 0 8 0 2 0 2 4;flip 2 3;", -6, 32);
        Check.fails("plane;at 0 0 8 0 2 0 2 4;flip 3 2;", -6, 32);
        Check.fails("plane;at 1 1;flip 0 0;", -6, 20);
        Check.fails("plane;at 1 1 2 2;flip 0 1;", -6, 24);
        Check.fails(SQUARE + "flip 0 2;flip 2 0;", -6, 41);
        Check.fails(SQUARE + "flip 0 1;at 9 9;", -6, 32);
    }

    // "points of an edge of the drawing (as it is then), which is flipped"
    private static void flipsAsItIsThen() {
        CircleFlips flips = Check.loaded(SQUARE + "flip 2 0;");
        Check.same("3: flipped", Told.triangles(flips, false), "0 1 3, 1 2 3");
        flips = Check.loaded(SQUARE + "flip 0 2;flip 3 1;");
        Check.same("3: and back", Told.triangles(flips, false), "0 1 2, 0 2 3");
        String five = "plane;at 0 0 100 0 140 80 60 160 0 100;";
        flips = Check.loaded(five);
        Check.same("3: five points", Told.triangles(flips, false), "0 1 4, 1 2 4, 2 3 4");
        flips = Check.loaded(five + "flip 1 4;flip 2 4;flip 0 2;");
        Check.same("3: each on what the others left", Told.triangles(flips, false), "0 1 3, 0 3 4, 1 2 3");
        Check.same("3: all counted", flips.state(10), 3);
        Check.fails(five + "flip 2 4;flip 1 4;flip 2 4;", -6, five.length() + 25);
    }

    // "The first error in the text is the one with the smallest offset."
    private static void smallestOffset() {
        Check.fails("plane;at 201 0 0 0 0 0;", -3, 9);
        Check.fails("plane;at 0 0 0 0 201 0;", -4, 15);
        Check.fails("plane;at 0 0 0 0 5;", -4, 15);
        Check.fails("plane;at 0 0 5;at 201 0;", -2, 14);
        Check.fails("plane;at 0 0 5 x 0 0;", -2, 15);
        Check.fails(TWENTY + "at 7 201;", -5, TWENTY.length() + 3);
        Check.fails(TWENTY + "at 0 0;", -5, TWENTY.length() + 3);
        Check.fails(TWENTY + "at 7 7 201 0;", -5, TWENTY.length() + 3);
        Check.fails(TWENTY + "at 7 7 x", -5, TWENTY.length() + 3);
        Check.fails(TWENTY + "flip 0 1;flip 20 0", -6, TWENTY.length() + 7);
        Check.fails(SQUARE + "flip 0 1 2;", -6, 32);
        Check.fails(SQUARE + "flip 9 9;", -3, 30);
        Check.fails(SQUARE + "flip 9;", -3, 30);
        Check.fails(SQUARE + "flip 9 x;", -3, 30);
        Check.fails(SQUARE + "flip 0 9 9;", -3, 32);
        Check.fails(SQUARE + "flip 0 1;flip 9 0;x", -6, 32);
    }

    // "If several kinds of error have the same offset, the first one in this list counts"
    private static void sameOffset() {
        Check.fails(TWENTY + "at 201 0;", -3, TWENTY.length() + 3);
        Check.fails(TWENTY + "at 0999 0;", -3, TWENTY.length() + 3);
        Check.fails(SQUARE + "flip 0 4;", -3, 32);
        Check.fails(SQUARE + "flip 3 201;", -3, 32);
    }

    // ---- Promise 4

    // "the latest call of load that did not throw; -1 if it found none or if there was no such call"
    private static void errorOffsetStays() {
        CircleFlips flips = new CircleFlips();
        Check.same("4: no call", flips.errorOffset(), -1);
        Check.illegal("4: a call that throws", flips, () -> flips.load(1));
        Check.same("4: no such call", flips.errorOffset(), -1);
        flips.load(0);
        Check.same("4: an error at 0", flips.errorOffset(), 0);
        Check.load(flips, "plane;at 0 0 0 0;");
        Check.same("4: the latest one", flips.errorOffset(), 15);
        Check.illegal("4: too long", flips, () -> flips.load(1));
        Check.illegal("4: negative", flips, () -> flips.load(-1));
        flips.append(0, 0, 0, 0, 0);
        flips.put(0, 0);
        flips.move(0, 1, 1);
        flips.mend(1);
        flips.take(0);
        flips.undo();
        flips.checksum();
        Check.same("4: no other call changes it", flips.errorOffset(), 15);
        Check.same("4: zeros are an error", Check.row(flips.load(20), flips.errorOffset()), "-2 0");
        Check.load(flips, SQUARE);
        Check.same("4: none", flips.errorOffset(), -1);
        flips.undo();
        Check.same("4: as behind the load", flips.errorOffset(), -1);
        Check.load(flips, SQUARE + "flip 0 1;");
        Check.load(flips, "plane;");
        Check.same("4: none again", flips.errorOffset(), -1);
    }
}
