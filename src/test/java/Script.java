import java.util.ArrayList;
import java.util.List;

/**
 * Calls on one new object, written as "2*tell(7); days(61)=BEYOND": a call, how often it is done, and
 * the answer that is due (without one, none is looked at). 's+d' comes to THE TAPE; 0's+d'=1 is
 * text(0) of it, too.
 */
final class Script {
    /** What an object answers behind so many calls is free. */
    static final int CALLS = 512;

    private final CrumbsHome x = new CrumbsHome();
    private final List<String> wrong = new ArrayList<>();
    private int calls = 0;

    int ask(String name, long... args) {
        calls++;
        if (calls == CALLS + 1) wrong.add("more than " + CALLS + " calls");
        return ModelTest.call(x, name, args);
    }

    List<String> wrong() {
        return wrong;
    }

    Script run(String steps) {
        for (String step : steps.split(";")) {
            String s = step.trim();
            if (!s.isEmpty()) runStep(s);
        }
        return this;
    }

    private void runStep(String s) {
        if (s.indexOf('\'') == 0 || s.indexOf('\'') == 1) {
            runText(s);
            return;
        }
        int star = s.indexOf('*');
        int times = star < 0 ? 1 : Integer.parseInt(s.substring(0, star));
        String call = s.substring(star + 1);
        int close = call.lastIndexOf(')');
        for (int i = 0; i < times; i++) {
            int got = ask(call.substring(0, call.indexOf('(')), numbers(call.substring(call.indexOf('(') + 1, close)));
            compare(s, call.substring(close + 1), got);
        }
    }

    private void runText(String s) {
        int open = s.indexOf('\'');
        int close = s.lastIndexOf('\'');
        String t = s.substring(open + 1, close);
        for (int i = 0; i < t.length(); i += 8) {
            int n = Math.min(8, t.length() - i);
            long word = 0;
            for (int j = 0; j < n; j++) word |= (long) t.charAt(i + j) << 8 * j;
            ask("feed", word, n);
        }
        if (open > 0) compare(s, s.substring(close + 1), ask("text", s.charAt(0) - '0'));
    }

    private void compare(String step, String due, int got) {
        if (!due.isEmpty() && got != number(due.substring(1))) wrong.add(step + " answered " + got);
    }

    private static long[] numbers(String args) {
        if (args.isBlank()) return new long[0];
        String[] parts = args.split(",");
        long[] n = new long[parts.length];
        for (int i = 0; i < n.length; i++) n[i] = number(parts[i].trim());
        return n;
    }

    static long number(String s) {
        switch (s) {
            case "BEYOND": return -1000000001;
            case "NONE": return -1000000002;
            case "STATE": return -1000000003;
            case "FULL": return -1000000004;
            case "KIND": return -1000000005;
            case "PARTED": return -1000000006;
            case "MIN": return Integer.MIN_VALUE;
            case "MAX": return Integer.MAX_VALUE;
            default: return Long.decode(s);
        }
    }
}
