import java.util.Random;

/** All promises: runs of calls drawn with a fixed seed, each answer beside that of the model. */
public final class ModelTest {
    private static final Check CHECK = new Check("ModelTest");
    private static final int RUNS = 1500;

    private final Random random;
    private final BundledLinks x = new BundledLinks();
    private final Model m = new Model();
    private final int run;
    private int calls;
    private String said = "";

    private ModelTest(int run) {
        this.run = run;
        random = new Random(run);
    }

    public static void main(String[] args) {
        for (int run = 0; run < RUNS; run++) {
            new ModelTest(run).play();
        }
        CHECK.end();
    }

    private void play() {
        if (random.nextInt(4) > 0) {
            layOther();
        }
        int lookEvery = 1 + random.nextInt(6);
        while (calls < 500) {
            if (random.nextInt(60) == 0) {
                textCall();
            } else if (random.nextInt(lookEvery) == 0) {
                changeCall();
            } else {
                lookCall();
            }
        }
    }

    private void due(String call, int got, int want) {
        calls++;
        if (got != want) {
            CHECK.due("run " + run + said + " " + call, got, want);
        } else {
            CHECK.due("", 0, 0);
        }
        said = calls < 60 ? said + " " + call : "";
    }

    private int drawn(int below) {
        if (random.nextInt(40) > 0) {
            return random.nextInt(below);
        }
        int[] far = {-1, below, below + 1, Integer.MIN_VALUE, Integer.MAX_VALUE, -4};
        return far[random.nextInt(far.length)];
    }

    /** Few keys and priorities, so that pairs and like priorities are met often. */
    private int figure() {
        return random.nextInt(3) > 0 ? 1 + random.nextInt(2) : random.nextInt(10);
    }

    private void layOther() {
        StringBuilder sb = new StringBuilder();
        int links = 1 + random.nextInt(6);
        int keys = random.nextInt(3);
        for (int l = 0; l < links; l++) {
            int k = keys == 0 ? 1 : figure();
            int j = keys < 2 ? 2 : figure();
            sb.append("l").append(k).append(",").append(figure()).append(",").append(j).append(",").append(figure())
                    .append(";");
        }
        if (random.nextBoolean()) {
            sb.append("x").append(figure()).append(",").append(figure()).append(";");
        }
        if (random.nextInt(5) > 0) {
            sb.append("m").append(1 + random.nextInt(6)).append(",").append(random.nextInt(random.nextBoolean() ? 3 : 10))
                    .append(",").append(random.nextInt(random.nextBoolean() ? 4 : 10)).append(";");
        }
        if (random.nextInt(12) == 0) {
            sb.setCharAt(random.nextInt(sb.length()), (char) (32 + random.nextInt(95)));
        }
        if (random.nextInt(12) == 0) {
            sb.deleteCharAt(random.nextInt(sb.length()));
        }
        due("wipe()", x.wipe(), m.wipe());
        for (int i = 0; i < sb.length(); i++) {
            due("write(" + (int) sb.charAt(i) + ")", x.write(sb.charAt(i)), m.write(sb.charAt(i)));
        }
        due("fault()", x.fault(), m.fault());
        due("lay()", x.lay(), m.lay());
    }

    private void textCall() {
        switch (random.nextInt(5)) {
            case 0:
                int letter = random.nextInt(-5, 135);
                due("write(" + letter + ")", x.write(letter), m.write(letter));
                break;
            case 1: due("wipe()", x.wipe(), m.wipe()); break;
            case 2: due("fault()", x.fault(), m.fault()); break;
            case 3: due("lay()", x.lay(), m.lay()); break;
            default: layOther();
        }
    }

    private void changeCall() {
        int e = drawn(2);
        int l = drawn(m.count(0));
        int what = drawn(2);
        switch (random.nextInt(10)) {
            case 0: due("plug(" + l + ", " + what + ")", x.plug(l, what), m.plug(l, what)); break;
            case 1: due("mute(" + e + ", " + l + ", " + what + ")", x.mute(e, l, what), m.mute(e, l, what)); break;
            case 2:
                int v = random.nextBoolean() ? figure() : drawn(10);
                due("tell(" + e + ", " + l + ", " + what + ", " + v + ")", x.tell(e, l, what, v), m.tell(e, l, what, v));
                break;
            case 3:
                int which = drawn(3);
                int w = random.nextBoolean() ? figure() : drawn(10);
                due("set(" + which + ", " + w + ")", x.set(which, w), m.set(which, w));
                break;
            case 4: due("undo()", x.undo(), m.undo()); break;
            case 5:
                int n = drawn(42);
                due("tick(" + n + ")", x.tick(n), m.tick(n));
                break;
            default:
                int few = 1 + random.nextInt(random.nextInt(4) + 1);
                due("tick(" + few + ")", x.tick(few), m.tick(few));
        }
    }

    private void lookCall() {
        int e = drawn(2);
        int l = drawn(m.count(0));
        int f = drawn(8);
        int what;
        switch (random.nextInt(12)) {
            case 0:
                what = drawn(3);
                due("bundle(" + e + ", " + what + ")", x.bundle(e, what), m.bundle(e, what));
                break;
            case 1:
            case 2:
            case 3:
                what = drawn(3);
                due("flow(" + e + ", " + f + ", " + what + ")", x.flow(e, f, what), m.flow(e, f, what));
                break;
            case 4: due("frame(" + e + ", " + f + ")", x.frame(e, f), m.frame(e, f)); break;
            case 5: due("frames(" + e + ", " + l + ")", x.frames(e, l), m.frames(e, l)); break;
            case 6: due("agreed()", x.agreed(), m.agreed()); break;
            case 7:
                if (random.nextInt(3) == 0) {
                    due("settled()", x.settled(), m.settled());
                }
                break;
            case 8:
                what = drawn(10);
                due("count(" + what + ")", x.count(what), m.count(what));
                break;
            default:
                what = drawn(11);
                due("link(" + e + ", " + l + ", " + what + ")", x.link(e, l, what), m.link(e, l, what));
        }
    }
}
