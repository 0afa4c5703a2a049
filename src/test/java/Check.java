/** Counts answers that are not the ones that are due, and ends a test with them. */
final class Check {
    private final String name;
    private int calls;
    private int wrong;

    Check(String name) {
        this.name = name;
    }

    void due(String what, int got, int want) {
        calls++;
        if (got != want) {
            wrong++;
            System.out.println(name + ": " + what + " answered " + got + ", due is " + want);
        }
    }

    void holds(String what, boolean is) {
        due(what, is ? 1 : 0, 1);
    }

    void end() {
        System.out.println(name + ": " + calls + " answers, " + wrong + " not as due");
        if (wrong != 0) {
            System.exit(1);
        }
    }

    static void type(BundledLinks x, String text) {
        for (int i = 0; i < text.length(); i++) {
            x.write(text.charAt(i));
        }
    }

    static int lay(BundledLinks x, String text) {
        x.wipe();
        type(x, text);
        return x.lay();
    }

    static BundledLinks laid(String text) {
        BundledLinks x = new BundledLinks();
        if (lay(x, text) < 1) {
            throw new IllegalStateException("not laid: " + text);
        }
        return x;
    }

    /** All that can be looked at, so that "nothing changes" can be tested. */
    static String all(BundledLinks x) {
        StringBuilder sb = new StringBuilder();
        for (int what = 0; what <= 9; what++) {
            sb.append(x.count(what)).append(' ');
        }
        sb.append(x.fault()).append(' ').append(x.agreed()).append(' ').append(x.settled());
        for (int e = 0; e < 2; e++) {
            sb.append("\nend ").append(e).append(':');
            for (int what = 0; what < 3; what++) {
                sb.append(' ').append(x.bundle(e, what));
            }
            for (int l = 0; l < x.count(0); l++) {
                sb.append("\n link ").append(l).append(':');
                for (int what = 0; what <= 10; what++) {
                    sb.append(' ').append(x.link(e, l, what));
                }
                sb.append(" frames ").append(x.frames(e, l));
            }
            for (int f = 0; f < 8; f++) {
                sb.append("\n flow ").append(f).append(':');
                for (int what = 0; what < 3; what++) {
                    sb.append(' ').append(x.flow(e, f, what));
                }
            }
        }
        return sb.toString();
    }

    void same(String what, String got, String want) {
        calls++;
        if (!got.equals(want)) {
            wrong++;
            System.out.println(name + ": " + what + " is\n" + got + "\ndue is\n" + want);
        }
    }
}
