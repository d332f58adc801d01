/** Promises 1 to 4: a new object, the input buffer, and the setup text with its errors. */
public final class TextTests {
    private static final String SQUARE = "plane;at 0 0 4 0 4 4 0 4;";

    public static void main(String[] args) {
        newObject();
        append();
        load();
        loadErrors();
        errorOffset();
        Check.close("TextTests");
    }

    // Promise 1
    private static void newObject() {
        CircleFlips flips = new CircleFlips();
        for (int what = 0; what <= 11; what++) {
            Check.same("1: state(" + what + ") of a new object", flips.state(what), 0);
        }
        Check.same("1: as by plane;", flips.checksum(), Check.loaded("plane;").checksum());
        Check.same("1: nothing to undo", flips.undo(), -1);
        Check.illegal("1: the buffer is empty", flips, () -> flips.load(1));
        Check.same("1: errorOffset()", flips.errorOffset(), -1);
    }

    // Promise 2
    private static void append() {
        CircleFlips flips = new CircleFlips();
        for (int i = 1; i <= 20; i++) {
            Check.same("2: append, call " + i, flips.append(0x20202020, 0x20202020, 0x20202020, 0x20202020, 0x20202020), 20 * i);
        }
        Check.same("2: append beyond 400", flips.append(0x41414141, 0, 0, 0, 0), -1);
        Check.same("2: 400 spaces, all kept", flips.load(400), -2);
        Check.same("2: their end", flips.errorOffset(), 400);
        Check.same("2: append behind load", flips.append(0x706c616e, 0x653b6174, 0x20312032, 0x20332034, 0x3b000000), 20);
        Check.same("2: the most significant byte first", flips.load(17), 2);
        Check.same("2: the places", Check.row(flips.point(0, 0), flips.point(0, 1), flips.point(1, 0), flips.point(1, 1)), "1 2 3 4");
        Check.same("2: a byte above 127", flips.append(0x80000000, 0, 0, 0, 0), 20);
        Check.same("2: a byte above 127 is no token", flips.load(1), -2);
    }

    // Promise 3
    private static void load() {
        CircleFlips flips = new CircleFlips();
        Check.same("3: load of the square", Check.load(flips, SQUARE), 4);
        Check.same("3: its drawing", Check.row(flips.state(1), flips.state(2), flips.state(5)), "2 5 2");
        Check.illegal("3: the buffer is empty behind load", flips, () -> flips.load(1));
        Check.append(flips, SQUARE);
        Check.illegal("3: load(-1)", flips, () -> flips.load(-1));
        Check.illegal("3: load(41) of 40", flips, () -> flips.load(41));
        Check.illegal("3: load of the least", flips, () -> flips.load(Integer.MIN_VALUE));
        Check.illegal("3: load of the greatest", flips, () -> flips.load(Integer.MAX_VALUE));
        Check.same("3: a load that threw kept the buffer", flips.load(SQUARE.length()), 4);
        Check.append(flips, SQUARE);
        Check.same("3: only the first bytes are read", flips.load(6), 0);
        Check.illegal("3: and all are gone", flips, () -> flips.load(1));
        loadReplaces();
        loadForms();
    }

    private static void loadReplaces() {
        CircleFlips flips = Check.loaded(SQUARE);
        flips.put(2, 1);
        flips.take(4);
        flips.flip(0, 2);
        Check.same("3: flips and puts before", Check.row(flips.state(10), flips.state(11)), "1 1");
        long before = flips.checksum();
        Check.same("3: an error", Check.load(flips, "plane;at 1 1 1 1;"), -4);
        Check.same("3: an error leaves all other data", flips.checksum(), before);
        Check.same("3: and the changes", flips.state(9), 4);
        Check.illegal("3: an error empties the buffer", flips, () -> flips.load(1));
        Check.same("3: load with flips", Check.load(flips, SQUARE + "flip 0 2;flip 3 1;flip 2 0;"), 4);
        Check.same("3: flips by the text are kept and counted", Check.row(flips.state(6), flips.state(10), flips.state(11)), "1 3 0");
        Check.same("3: load is a change", flips.state(9), 5);
        flips.undo();
        Check.same("3: that can be undone", flips.checksum(), before);
    }

    private static void loadForms() {
        Check.loads("  plane  ;  ", 0);
        Check.loads("plane;at0 0 4 0;at 4 4 0 4;flip0 2;flip1 3;", 4);
        Check.loads(" plane ; at  1  2 ; ", 1);
        Check.loads("plane;at 0000000000000000000000200 00;", 1);
        Check.loads("plane;at 200 200;", 1);
        Check.loads("plane;at 0 0;at 0 1;at 1 0;", 3);
        Check.loads("plane;at 0 0 1 0 2 0 3 0 4 0 5 0 6 0 7 0 8 0 9 0 10 0 11 0 12 0 13 0 14 0 15 0 16 0 17 0 18 0 19 0;", 20);
        Check.loads(SQUARE + " flip 00 2 ;flip 1 0003;", 4);
    }

    // Promise 3, the kinds of errors and their offsets
    private static void loadErrors() {
        Check.fails("", -2, 0);
        Check.fails("   ", -2, 3);
        Check.fails("plan;", -2, 0);
        Check.fails("planes;", -2, 0);
        Check.fails("plant;", -2, 0);
        Check.fails("blane;", -2, 0);
        Check.fails("plane;it 0 0;", -2, 6);
        Check.fails("plane;an 0 0;", -2, 6);
        Check.fails("plane;atz 0 0;", -2, 6);
        Check.fails("plane;ata 0 0;", -2, 6);
        Check.fails("plane;at`0 0;", -2, 8);
        Check.fails("plane;at{0 0;", -2, 8);
        Check.fails("plane;at/0 0;", -2, 8);
        Check.fails("plane;at:0 0;", -2, 8);
        Check.fails("planeat 0 0;", -2, 0);
        Check.fails("Plane;", -2, 0);
        Check.fails("plane", -2, 5);
        Check.fails("plane  ", -2, 7);
        Check.fails("plane at 0 0;", -2, 6);
        Check.fails("plane;;", -2, 6);
        Check.fails("plane; plane;", -2, 7);
        Check.fails("plane;at;", -2, 8);
        Check.fails("plane;at 0;", -2, 10);
        Check.fails("plane;at 0", -2, 10);
        Check.fails("plane;at 0 ", -2, 11);
        Check.fails("plane;at 0 0", -2, 12);
        Check.fails("plane;at 0 0 5;", -2, 14);
        Check.fails("plane;at -1 0;", -2, 9);
        Check.fails("plane;at 0,0;", -2, 10);
        Check.fails("plane;at 0\t0;", -2, 10);
        Check.fails("plane;atx 0 0;", -2, 6);
        Check.fails("plane;at 0 0x;", -2, 12);
        Check.fails("plane;at 0 0;flip;", -2, 17);
        Check.fails(SQUARE + "flap 0 2;", -2, 25);
        Check.fails(SQUARE + "clip 0 2;", -2, 25);
        Check.fails(SQUARE + "flip 0 2", -2, 33);
        Check.fails(SQUARE + "flip 0 2 1;", -2, 34);
        Check.fails(SQUARE + "flip 0;", -2, 31);
        Check.fails(SQUARE + "flip 0 2; at 9 9;", -2, 35);
        Check.fails("plane;at 201 0;", -3, 9);
        Check.fails("plane;at 0 201;", -3, 11);
        Check.fails("plane;at 0 00201;", -3, 11);
        Check.fails("plane;at 4294967296 0;", -3, 9);
        Check.fails("plane;at 18446744073709551616 0;", -3, 9);
        Check.fails("plane;flip 0 1;", -3, 11);
        Check.fails(SQUARE + "flip 4 0;", -3, 30);
        Check.fails(SQUARE + "flip 0 4;", -3, 32);
        Check.fails("plane;at 0 0 0 0;", -4, 15);
        Check.fails("plane;at 5 6;at 5 006;", -4, 18);
        Check.fails(SQUARE + "flip 0 1;", -6, 32);
        Check.fails(SQUARE + "flip 1 3;", -6, 32);
        Check.fails(SQUARE + "flip 2 2;", -6, 32);
        Check.fails(SQUARE + "flip 0 2;flip 0 2;", -6, 41);
        Check.fails(SQUARE + "flip 0 1 x", -6, 32);
        tooMany("7 7;", -5, 0);
        tooMany("7;", -5, 0);
        tooMany("7 201;", -5, 0);
        tooMany("201 7;", -3, 0);
        tooMany("0 0;", -5, 0);
        tooMany(";at;", -2, 3);
        tooMany(";at 7 7;", -5, 4);
        tooMany("x", -2, 0);
    }

    private static void tooMany(String behind, int code, int offset) {
        StringBuilder text = new StringBuilder("plane;at");
        for (int i = 0; i < 20; i++) {
            text.append(' ').append(i).append(" 0");
        }
        text.append(' ');
        Check.fails(text + behind, code, text.length() + offset);
    }

    // Promise 4
    private static void errorOffset() {
        CircleFlips flips = new CircleFlips();
        Check.illegal("4: load throws", flips, () -> flips.load(5));
        Check.same("4: no call yet that did not throw", flips.errorOffset(), -1);
        Check.load(flips, "plane;!");
        Check.same("4: an error", flips.errorOffset(), 6);
        Check.illegal("4: load throws", flips, () -> flips.load(1));
        flips.put(1, 1);
        flips.undo();
        Check.same("4: still the latest load's", flips.errorOffset(), 6);
        Check.load(flips, "plane;");
        Check.same("4: none", flips.errorOffset(), -1);
        Check.load(flips, "plane");
        Check.same("4: the end", flips.errorOffset(), 5);
        flips.undo();
        Check.same("4: undo does not change it", flips.errorOffset(), 5);
    }
}
