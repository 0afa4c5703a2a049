import java.util.Arrays;
import java.util.Locale;
import java.util.regex.Matcher;
import java.util.regex.Pattern;

/**
 * A run of calls on one object, told as a text: "tick(3) = 1; plug(0, 0) = NO; undo()". A call without an
 * answer is made and its answer not looked at. MIN and MAX are the least and the greatest int.
 */
final class Run {
    private static final Pattern CALL =
            Pattern.compile("\\s*(\\w+)\\(([^)]*)\\)\\s*(?:=\\s*([\\w-]+)\\s*)?(?:;|$)");

    final BundledLinks x = new BundledLinks();
    private final Check check;
    private final String of;
    private final StringBuilder said = new StringBuilder();

    Run(Check check, String of) {
        this.check = check;
        this.of = of;
    }

    Run lay(String text) {
        Check.lay(x, text);
        said.append(" (laid ").append(text).append(')');
        return this;
    }

    Run type(String text) {
        Check.type(x, text);
        said.append(" (written ").append(text).append(')');
        return this;
    }

    Run calls(String row, Object... values) {
        String all = values.length == 0 ? row : String.format(Locale.ROOT, row, values);
        Matcher call = CALL.matcher(all);
        int at = 0;
        while (at < all.length() && call.region(at, all.length()).lookingAt()) {
            String text = call.group(1) + "(" + call.group(2) + ")";
            int got = answer(call.group(1), numbers(call.group(2)));
            if (call.group(3) != null) {
                check.due("'" + of + "':" + said + " " + text, got, number(call.group(3)));
            }
            said.append(' ').append(text);
            at = call.end();
        }
        if (!all.substring(at).isBlank()) {
            throw new IllegalStateException("not a row of calls: " + all.substring(at));
        }
        return this;
    }

    /** All that can be looked at is the same on another run. */
    void sameAs(Run other) {
        check.same("'" + of + "':" + said, Check.all(x), Check.all(other.x));
    }

    private static int[] numbers(String row) {
        return row.isBlank() ? new int[0] : Arrays.stream(row.split(",")).mapToInt(Run::number).toArray();
    }

    private static int number(String told) {
        switch (told.trim()) {
            case "BAD": return -1;
            case "NO": return -2;
            case "FULL": return -3;
            case "NONE": return -4;
            case "MIN": return Integer.MIN_VALUE;
            case "MAX": return Integer.MAX_VALUE;
            default: return Integer.parseInt(told.trim());
        }
    }

    private int answer(String name, int[] a) {
        switch (name) {
            case "write": return x.write(a[0]);
            case "wipe": return x.wipe();
            case "fault": return x.fault();
            case "lay": return x.lay();
            case "plug": return x.plug(a[0], a[1]);
            case "mute": return x.mute(a[0], a[1], a[2]);
            case "tell": return x.tell(a[0], a[1], a[2], a[3]);
            case "set": return x.set(a[0], a[1]);
            case "tick": return x.tick(a[0]);
            case "undo": return x.undo();
            case "link": return x.link(a[0], a[1], a[2]);
            case "bundle": return x.bundle(a[0], a[1]);
            case "flow": return x.flow(a[0], a[1], a[2]);
            case "frame": return x.frame(a[0], a[1]);
            case "frames": return x.frames(a[0], a[1]);
            case "agreed": return x.agreed();
            case "settled": return x.settled();
            case "count": return x.count(a[0]);
            default: throw new IllegalStateException("no such call: " + name);
        }
    }
}
