/** Counts what is right and what is wrong, and puts texts into the program's buffer. */
final class Check {
    private static int right = 0;
    private static int wrong = 0;

    private Check() {
    }

    static void same(String what, Object got, Object due) {
        if (String.valueOf(got).equals(String.valueOf(due))) {
            right++;
        } else {
            wrong++;
            System.out.println(what + ": got " + got + ", due is " + due);
        }
    }

    /** The call must throw this very class, and leave all that the program tells as it was. */
    static void thrown(String what, CircleFlips flips, Class<?> due, Runnable call) {
        String before = told(flips);
        Class<?> got = null;
        try {
            call.run();
        } catch (RuntimeException e) {
            got = e.getClass();
        }
        same(what, got, due);
        same(what + " changes nothing", told(flips), before);
    }

    static void outside(String what, CircleFlips flips, Runnable call) {
        thrown(what, flips, IndexOutOfBoundsException.class, call);
    }

    static void illegal(String what, CircleFlips flips, Runnable call) {
        thrown(what, flips, IllegalArgumentException.class, call);
    }

    static void refused(String what, CircleFlips flips, Runnable call) {
        thrown(what, flips, IllegalStateException.class, call);
    }

    private static String told(CircleFlips flips) {
        return flips.checksum() + " " + flips.state(9) + " " + flips.errorOffset();
    }

    static int append(CircleFlips flips, String text) {
        int length = 0;
        for (int i = 0; i < text.length(); i += 20) {
            int[] words = ModelTests.words(text, i);
            length = flips.append(words[0], words[1], words[2], words[3], words[4]);
        }
        return length;
    }

    static int load(CircleFlips flips, String text) {
        append(flips, text);
        return flips.load(text.length());
    }

    /** An object behind the load of a text, which must have no error. */
    static CircleFlips loaded(String text) {
        CircleFlips flips = new CircleFlips();
        load(flips, text);
        same("errorOffset() behind " + text, flips.errorOffset(), -1);
        return flips;
    }

    /** The text has no error, and so many points. */
    static void loads(String text, int points) {
        CircleFlips flips = new CircleFlips();
        same("3: " + text, load(flips, text), points);
        same("4: " + text, flips.errorOffset(), -1);
        same("3: the points of " + text, flips.state(0), points);
    }

    /** The text has this error there, and changes nothing. */
    static void fails(String text, int code, int offset) {
        CircleFlips flips = loaded("plane;at 7 8;");
        long before = flips.checksum();
        same("3: " + text, load(flips, text), code);
        same("4: offset in " + text, flips.errorOffset(), offset);
        same("3: data behind " + text, flips.checksum(), before);
        same("3: changes behind " + text, flips.state(9), 1);
        illegal("3: the buffer behind " + text, flips, () -> flips.load(1));
    }

    /** The numbers of a row in one text. */
    static String row(int... numbers) {
        StringBuilder row = new StringBuilder();
        for (int number : numbers) {
            row.append(number).append(' ');
        }
        return row.toString().trim();
    }

    static void close(String name) {
        System.out.println(name + ": " + right + " checks right, " + wrong + " wrong");
        if (wrong != 0) {
            System.exit(1);
        }
    }
}
