import java.io.IOException;
import java.nio.charset.StandardCharsets;
import java.nio.file.Files;
import java.nio.file.Path;
import java.util.List;

/** The example of README.md: its calls answer what stands behind them. Runs in the project's directory. */
public final class ReadmeTests {
    private static List<String> lines;
    private static int next;

    public static void main(String[] args) throws IOException {
        lines = Files.readAllLines(Path.of("README.md"), StandardCharsets.UTF_8);
        next = lines.indexOf("CircleFlips flips = new CircleFlips();") + 1;
        Check.same("README.md has an example", next > 0, true);
        example();
        Check.close("ReadmeTests");
    }

    private static void example() {
        CircleFlips flips = new CircleFlips();
        text("plane;at 0 5 20 5 10", " 0 10 10;");
        call("flips.append(0x706c616e, 0x653b6174, 0x20302035, 0x20323020, 0x35203130);",
                flips.append(0x706c616e, 0x653b6174, 0x20302035, 0x20323020, 0x35203130));
        call("flips.append(0x20302031, 0x30203130, 0x3b000000, 0, 0);",
                flips.append(0x20302031, 0x30203130, 0x3b000000, 0, 0));
        call("flips.load(29);", flips.load(29));
        call("flips.errorOffset();", flips.errorOffset());
        call("flips.flip(2, 3);", flips.flip(2, 3));
        call("flips.state(4);", flips.state(4));
        call("flips.mend(500);", flips.mend(500));
        call("flips.put(200, 200);", flips.put(200, 200));
        call("flips.undo();", flips.undo());
        Check.same("the example's end", line(), "```");
        Check.loads("plane; at 0 0 4 0 4 4 0 4; flip 0 2;", 4);
    }

    private static String line() {
        String line = next < lines.size() ? lines.get(next) : "";
        next++;
        return line;
    }

    private static void text(String first, String second) {
        Check.same("the text", line(), "// \"" + first + "\" and \"" + second + "\", filled up with zeros");
        CircleFlips typed = new CircleFlips();
        Check.load(typed, first + second);
        CircleFlips written = new CircleFlips();
        written.append(0x706c616e, 0x653b6174, 0x20302035, 0x20323020, 0x35203130);
        written.append(0x20302031, 0x30203130, 0x3b000000, 0, 0);
        written.load(first.length() + second.length());
        Check.same("the text in its words", written.checksum(), typed.checksum());
    }

    /** The next line must be this call, and the answer behind it what the program answers. */
    private static void call(String call, int answer) {
        String line = line();
        int comment = line.indexOf("//");
        Check.same("a call of the example", comment < 0 ? line : line.substring(0, comment).trim(), call);
        String told = comment < 0 ? "" : line.substring(comment + 2).trim();
        int colon = told.indexOf(':');
        Check.same(call, answer, colon < 0 ? told : told.substring(0, colon));
    }
}
