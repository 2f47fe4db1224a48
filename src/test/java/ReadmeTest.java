import java.io.IOException;
import java.nio.charset.StandardCharsets;
import java.nio.file.Files;
import java.nio.file.Path;
import java.util.regex.Matcher;
import java.util.regex.Pattern;

/** Each call of the example in README.md answers the number that stands behind it. */
public final class ReadmeTest {
    private static final Pattern CALL = Pattern.compile("home\\.(\\w+)\\(([^)]*)\\); +// (-?\\d+)(?::.*)?");

    private static long[] numbers(String args) {
        if (args.isEmpty()) return new long[0];
        String[] parts = args.split(", ");
        long[] n = new long[parts.length];
        for (int i = 0; i < n.length; i++) n[i] = Long.decode(parts[i].replace("L", ""));
        return n;
    }

    public static void main(String[] args) throws IOException {
        CrumbsHome home = new CrumbsHome();
        int calls = 0;
        int wrong = 0;
        for (String line : Files.readString(Path.of("README.md"), StandardCharsets.UTF_8).split("\n")) {
            Matcher call = CALL.matcher(line.trim());
            if (!call.matches()) continue;
            calls++;
            int got = ModelTest.call(home, call.group(1), numbers(call.group(2)));
            if (got == Integer.parseInt(call.group(3))) continue;
            wrong++;
            System.out.println(line.trim() + " .. answered " + got);
        }
        System.out.println(calls + " calls of README.md, " + wrong + " of them wrong");
        if (wrong > 0 || calls == 0) System.exit(1);
    }
}
