import java.util.ArrayList;
import java.util.Arrays;
import java.util.Comparator;
import java.util.List;

/**
 * The document once more, written another way than the class: a row of whole states, one a tick,
 * from which all answers are read; what is undone is forgotten and the rest is played again from LAID.
 */
final class Model {
    private static final int BAD = -1, NO = -2, FULL = -3, NONE = -4;

    /** All that stands at the end of a tick, or is told since. */
    private static final class State {
        int links, most = 4, wait = 2, drain = 1, ticks;
        int[] rank = {5, 5};
        boolean[] up = new boolean[6];
        boolean[][] mute = new boolean[2][6];
        int[][] key = new int[2][6], prio = new int[2][6];
        // {key, priority, rank, sync} or null
        int[][][] sent = new int[2][6][], knows = new int[2][6][];
        int[][] age = new int[2][6], how = new int[2][6], cnt = new int[2][6], begun = new int[2][6];
        int[][] flowLink = new int[2][8], held = new int[2][8];

        State() {
            for (int e = 0; e < 2; e++) {
                Arrays.fill(how[e], 1);
                Arrays.fill(cnt[e], NONE);
                Arrays.fill(flowLink[e], NONE);
            }
        }
    }

    private String text = "";
    private String laid;
    private final List<int[]> changes = new ArrayList<>();
    private int undoable;
    private State s;
    private int[][] frames = new int[2][6];

    Model() {
        laid = "l1,5,2,5;l1,3,2,4;l1,5,2,1;l1,5,3,5;l1,6,2,6;x4,5;m2,2,1;";
        s = start();
    }

    private State start() {
        State t = new State();
        for (String item : laid.split(";")) {
            String[] n = item.substring(1).split(",");
            int[] v = Arrays.stream(n).mapToInt(Integer::parseInt).toArray();
            if (item.charAt(0) == 'l') {
                t.key[0][t.links] = v[0];
                t.prio[0][t.links] = v[1];
                t.key[1][t.links] = v[2];
                t.prio[1][t.links] = v[3];
                t.up[t.links++] = true;
            } else if (item.charAt(0) == 'x') {
                t.rank = v;
            } else {
                t.most = v[0];
                t.wait = v[1];
                t.drain = v[2];
            }
        }
        return t;
    }

    private State play(List<int[]> all) {
        State t = start();
        for (int[] c : all) {
            apply(t, c);
        }
        return t;
    }

    private static void apply(State t, int[] c) {
        switch (c[0]) {
            case 0: t.up[c[1]] = c[2] == 1; break;
            case 1: t.mute[c[1]][c[2]] = c[3] == 1; break;
            case 2: (c[3] == 0 ? t.key : t.prio)[c[1]][c[2]] = c[4]; break;
            case 3:
                if (c[1] == 2) {
                    t.most = c[2];
                } else {
                    t.rank[c[1]] = c[2];
                }
                break;
            default:
                for (int i = 0; i < c[1]; i++) {
                    oneTick(t);
                }
        }
    }

    private void change(int... c) {
        changes.add(c);
        undoable = Math.min(6, undoable + 1);
        apply(s, c);
    }

    private static void oneTick(State t) {
        int[][][] came = {t.sent[1], t.sent[0]};
        int[][][] sends = new int[2][6][];
        for (int e = 0; e < 2; e++) {
            for (int l = 0; l < t.links; l++) {
                if (!t.up[l]) {
                    t.knows[e][l] = null;
                } else if (came[e][l] != null) {
                    t.knows[e][l] = came[e][l];
                    t.age[e][l] = 0;
                } else if (t.knows[e][l] != null && ++t.age[e][l] == 3) {
                    t.knows[e][l] = null;
                }
            }
            List<Integer> chosen = chosen(t, e);
            for (int l = 0; l < t.links; l++) {
                int was = t.how[e][l];
                t.cnt[e][l] = !chosen.contains(l) ? NONE : t.cnt[e][l] == NONE ? 0 : t.cnt[e][l] + 1;
                t.how[e][l] = !t.up[l] ? 0 : t.knows[e][l] == null ? 1 : t.cnt[e][l] == NONE ? 2
                        : t.cnt[e][l] < t.wait ? 3 : 4 + t.knows[e][l][3];
                if (was != 5 && t.how[e][l] == 5) {
                    t.begun[e][l]++;
                }
                if (t.up[l] && !t.mute[e][l]) {
                    sends[e][l] = new int[] {t.key[e][l], t.prio[e][l], t.rank[e], t.how[e][l] >= 4 ? 1 : 0};
                }
            }
            for (int f = 0; f < 8; f++) {
                int wants = wants(t, e, f);
                boolean moves = false;
                if (t.held[e][f] > 0) {
                    moves = --t.held[e][f] == 0;
                } else if (wants != t.flowLink[e][f]) {
                    moves = t.flowLink[e][f] == NONE || wants == NONE || t.drain == 0;
                    t.held[e][f] = moves ? 0 : t.drain;
                }
                t.flowLink[e][f] = moves ? wants : t.flowLink[e][f];
            }
        }
        t.sent = sends;
        t.ticks++;
    }

    private static List<Integer> chosen(State t, int e) {
        List<Integer> open = new ArrayList<>();
        for (int l = 0; l < t.links; l++) {
            if (t.knows[e][l] != null) {
                open.add(l);
            }
        }
        if (open.isEmpty()) {
            return open;
        }
        int[] ranks = new int[2];
        ranks[e] = t.rank[e];
        ranks[1 - e] = t.knows[e][open.get(0)][2];
        int decides = ranks[1] < ranks[0] ? 1 : 0;
        open.sort(Comparator.comparingInt(
                (Integer l) -> (decides == e ? t.prio[e][l] : t.knows[e][l][1]) * 10 + l));
        int first = open.get(0);
        List<Integer> chosen = new ArrayList<>();
        for (int l : open) {
            boolean pair = t.key[e][l] == t.key[e][first] && t.knows[e][l][0] == t.knows[e][first][0];
            if (pair && chosen.size() < t.most) {
                chosen.add(l);
            }
        }
        return chosen;
    }

    private static int wants(State t, int e, int f) {
        List<Integer> members = new ArrayList<>();
        for (int l = 0; l < t.links; l++) {
            if (t.how[e][l] == 5) {
                members.add(l);
            }
        }
        return members.isEmpty() ? NONE : members.get((7 * f + 3) % members.size());
    }

    private static boolean in(int v, int from, int to) {
        return v >= from && v <= to;
    }

    private boolean isLink(int l) {
        return in(l, 0, s.links - 1);
    }

    int write(int letter) {
        if (!in(letter, 32, 126)) {
            return BAD;
        }
        if (text.length() == 200) {
            return FULL;
        }
        text += (char) letter;
        return text.length();
    }

    int wipe() {
        int was = text.length();
        text = "";
        return was;
    }

    int fault() {
        int links = 0;
        int place = 0;
        while (place < text.length()) {
            int end = text.indexOf(';', place);
            String item = end < 0 ? "" : text.substring(place, end);
            if (!item.matches("l\\d,\\d,\\d,\\d|x\\d,\\d|m[1-6],\\d,\\d")) {
                return place;
            }
            if (item.startsWith("l") && ++links > 6) {
                return place;
            }
            place = end + 1;
        }
        return NONE;
    }

    int lay() {
        if (fault() != NONE || !text.contains("l")) {
            return NO;
        }
        laid = text;
        changes.clear();
        undoable = 0;
        frames = new int[2][6];
        s = start();
        return s.links;
    }

    int plug(int l, int is) {
        if (!isLink(l) || !in(is, 0, 1)) {
            return BAD;
        }
        if (s.up[l] == (is == 1)) {
            return NO;
        }
        change(0, l, is);
        return count(1);
    }

    int mute(int e, int l, int is) {
        if (!in(e, 0, 1) || !isLink(l) || !in(is, 0, 1)) {
            return BAD;
        }
        if (s.mute[e][l] == (is == 1)) {
            return NO;
        }
        change(1, e, l, is);
        int n = 0;
        for (boolean m : s.mute[e]) {
            n += m ? 1 : 0;
        }
        return n;
    }

    int tell(int e, int l, int what, int v) {
        if (!in(e, 0, 1) || !isLink(l) || !in(what, 0, 1) || !in(v, 0, 9)) {
            return BAD;
        }
        int was = link(e, l, what);
        if (was == v) {
            return NO;
        }
        change(2, e, l, what, v);
        return was;
    }

    int set(int what, int v) {
        if (!in(what, 0, 2) || !in(v, what == 2 ? 1 : 0, what == 2 ? 6 : 9)) {
            return BAD;
        }
        int was = count(2 + what);
        if (was == v) {
            return NO;
        }
        change(3, what, v);
        return was;
    }

    int tick(int n) {
        if (!in(n, 1, 40)) {
            return BAD;
        }
        if (s.ticks + n > 9999) {
            return NO;
        }
        change(4, n);
        return agreed();
    }

    int undo() {
        if (undoable == 0) {
            return NO;
        }
        undoable--;
        changes.remove(changes.size() - 1);
        s = play(changes);
        return undoable;
    }

    int link(int e, int l, int what) {
        if (!in(e, 0, 1) || !isLink(l) || !in(what, 0, 10)) {
            return BAD;
        }
        int[] knows = s.knows[e][l];
        switch (what) {
            case 0: return s.key[e][l];
            case 1: return s.prio[e][l];
            case 2: return s.how[e][l];
            case 3: return knows == null ? NONE : s.age[e][l];
            case 8: return s.cnt[e][l];
            case 9: return s.begun[e][l];
            case 10: return s.mute[e][l] ? 1 : 0;
            default: return knows == null ? NONE : knows[what - 4];
        }
    }

    int bundle(int e, int what) {
        if (!in(e, 0, 1) || !in(what, 0, 2)) {
            return BAD;
        }
        int bits = 0;
        for (int l = 0; l < s.links; l++) {
            int how = s.how[e][l];
            if (how > 1 + (what > 0 ? 1 : 0) + (what > 1 ? 2 : 0)) {
                bits += 1 << l;
            }
        }
        return bits;
    }

    int flow(int e, int f, int what) {
        if (!in(e, 0, 1) || !in(f, 0, 7) || !in(what, 0, 2)) {
            return BAD;
        }
        return what == 0 ? s.flowLink[e][f] : what == 1 ? s.held[e][f] : wants(s, e, f);
    }

    int frame(int e, int f) {
        if (!in(e, 0, 1) || !in(f, 0, 7)) {
            return BAD;
        }
        if (s.held[e][f] > 0) {
            return NO;
        }
        int l = s.flowLink[e][f];
        if (l == NONE || s.how[e][l] != 5) {
            return NONE;
        }
        frames[e][l]++;
        return l;
    }

    int frames(int e, int l) {
        return in(e, 0, 1) && isLink(l) ? frames[e][l] : BAD;
    }

    int agreed() {
        return bundle(0, 2) != 0 && bundle(0, 2) == bundle(1, 2) ? 1 : 0;
    }

    int settled() {
        State t = play(changes);
        List<String> looks = new ArrayList<>();
        for (int i = 0; i <= 46; i++) {
            looks.add(Arrays.deepToString(t.how) + Arrays.deepToString(t.flowLink));
            oneTick(t);
        }
        for (int i = 0; i <= 40; i++) {
            if (looks.subList(i, i + 7).stream().distinct().count() == 1) {
                return i;
            }
        }
        return NONE;
    }

    int count(int what) {
        int up = 0;
        for (boolean u : s.up) {
            up += u ? 1 : 0;
        }
        int[] all = {s.links, up, s.rank[0], s.rank[1], s.most, s.wait, s.drain, s.ticks, undoable, text.length()};
        return in(what, 0, 9) ? all[what] : BAD;
    }
}
