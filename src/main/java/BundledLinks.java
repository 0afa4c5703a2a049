/**
 * Links between two ends, bundled to one. What each call promises stands in the
 * project's document; README.md tells how the class is used.
 */
public final class BundledLinks {
    public static final int BAD = -1, NO = -2, FULL = -3, NONE = -4;

    private static final int LINKS = 6;
    private static final int FLOWS = 8;
    private static final int LETTERS = 200;
    private static final int UNDOABLE = 6;
    private static final int TICKS_OF_A_CALL = 40;
    private static final int TICKS_IN_ALL = 9999;
    private static final int TOO_OLD = 3;
    private static final int SETTLED_WITHIN = 40;
    private static final int STAYS_FOR = 6;

    private static final int DOWN = 0, ALONE = 1, SPARE = 2, WAITING = 3, READY = 4, SENDING = 5;

    private static final String FIRST_TEXT =
            "l1,5,2,5;l1,3,2,4;l1,5,2,1;l1,5,3,5;l1,6,2,6;x4,5;m2,2,1;";

    private final Text text;
    private final Net net;
    private final History history;
    // Frames stand apart from the net because undoing a change leaves them as they are.
    private final int[] went;
    // Two nets of settled() alone, made once so that no call makes objects.
    private final Net trial;
    private final Net mark;

    public BundledLinks() {
        text = new Text();
        net = new Net();
        history = new History();
        went = new int[2 * LINKS];
        trial = new Net();
        mark = new Net();
        for (int i = 0; i < FIRST_TEXT.length(); i++) {
            text.add(FIRST_TEXT.charAt(i));
        }
        net.layOut(text);
        text.clear();
    }

    // ---- told

    public int write(int letter) {
        if (letter < 32 || letter > 126) {
            return BAD;
        }
        return text.add(letter) ? text.size : FULL;
    }

    public int wipe() {
        int was = text.size;
        text.clear();
        return was;
    }

    public int fault() {
        return text.firstFault();
    }

    public int lay() {
        if (text.firstFault() != NONE || !text.tellsLink()) {
            return NO;
        }
        net.layOut(text);
        history.clear();
        for (int i = 0; i < went.length; i++) {
            went[i] = 0;
        }
        return net.links;
    }

    // ---- told anew

    public int plug(int l, int is) {
        Port port = net.portOf(0, l);
        if (port == null || !isZeroOrOne(is)) {
            return BAD;
        }
        boolean up = is == 1;
        if (port.up == up) {
            return NO;
        }
        history.keep(net);
        net.plugLink(l, up);
        return net.zero.howManyUp();
    }

    public int mute(int e, int l, int is) {
        End end = net.endOf(e);
        Port port = net.portOf(e, l);
        if (end == null || port == null || !isZeroOrOne(is)) {
            return BAD;
        }
        boolean muted = is == 1;
        if (port.muted == muted) {
            return NO;
        }
        history.keep(net);
        port.muted = muted;
        return end.howManyMuted();
    }

    public int tell(int e, int l, int what, int v) {
        Port port = net.portOf(e, l);
        if (port == null || !isZeroOrOne(what) || !isFigure(v)) {
            return BAD;
        }
        int was = what == 0 ? port.key : port.priority;
        if (was == v) {
            return NO;
        }
        history.keep(net);
        if (what == 0) {
            port.key = v;
        } else {
            port.priority = v;
        }
        return was;
    }

    public int set(int what, int v) {
        if (what < 0 || what > 2 || (what == 2 ? !isMost(v) : !isFigure(v))) {
            return BAD;
        }
        int was = net.setting(what);
        if (was == v) {
            return NO;
        }
        history.keep(net);
        net.changeSetting(what, v);
        return was;
    }

    public int tick(int n) {
        if (n < 1 || n > TICKS_OF_A_CALL) {
            return BAD;
        }
        if (net.ticks + n > TICKS_IN_ALL) {
            return NO;
        }
        history.keep(net);
        for (int i = 0; i < n; i++) {
            net.step();
        }
        return agreed();
    }

    public int undo() {
        Net before = history.takeLatest();
        if (before == null) {
            return NO;
        }
        net.copyFrom(before);
        return history.size;
    }

    // ---- looked at

    public int link(int e, int l, int what) {
        Port port = net.portOf(e, l);
        return port == null ? BAD : port.look(what);
    }

    public int bundle(int e, int what) {
        End end = net.endOf(e);
        return end == null || what < 0 || what > 2 ? BAD : end.bits(what);
    }

    public int flow(int e, int f, int what) {
        End end = net.endOf(e);
        Flow flow = net.flowOf(e, f);
        if (end == null || flow == null) {
            return BAD;
        }
        switch (what) {
            case 0: return flow.link;
            case 1: return flow.held;
            case 2: return end.wantedBy(f, end.howManySending());
            default: return BAD;
        }
    }

    public int frame(int e, int f) {
        Flow flow = net.flowOf(e, f);
        if (flow == null) {
            return BAD;
        }
        if (flow.held > 0) {
            return NO;
        }
        Port port = net.portOf(e, flow.link);
        int place = placeOfFrames(e, flow.link);
        if (port == null || port.how != SENDING || place == NONE) {
            return NONE;
        }
        went[place]++;
        return flow.link;
    }

    public int frames(int e, int l) {
        int place = placeOfFrames(e, l);
        return place == NONE ? BAD : went[place];
    }

    public int agreed() {
        int sending = net.zero.bits(2);
        return sending != 0 && sending == net.one.bits(2) ? 1 : 0;
    }

    public int settled() {
        trial.copyFrom(net);
        mark.copyFrom(net);
        int since = 0;
        for (int t = 1; t <= SETTLED_WITHIN + STAYS_FOR; t++) {
            trial.step();
            if (!trial.looksLike(mark)) {
                mark.copyFrom(trial);
                since = t;
            } else if (t - since >= STAYS_FOR) {
                return since;
            }
        }
        return NONE;
    }

    public int count(int what) {
        switch (what) {
            case 0: return net.links;
            case 1: return net.zero.howManyUp();
            case 2: return net.setting(0);
            case 3: return net.setting(1);
            case 4: return net.setting(2);
            case 5: return net.wait;
            case 6: return net.drain;
            case 7: return net.ticks;
            case 8: return history.size;
            case 9: return text.size;
            default: return BAD;
        }
    }

    // ---- helpers

    private int placeOfFrames(int e, int l) {
        if (e < 0 || e > 1 || l < 0 || l >= net.links) {
            return NONE;
        }
        int place = e * LINKS + l;
        return place < went.length ? place : NONE;
    }

    private static boolean isZeroOrOne(int v) {
        return v == 0 || v == 1;
    }

    private static boolean isFigure(int v) {
        return v >= 0 && v <= 9;
    }

    private static boolean isMost(int v) {
        return v >= 1 && v <= LINKS;
    }

    /** What an end sends on a link in one tick, or knows of it. */
    private static final class Message {
        boolean there;
        int key;
        int priority;
        int rank;
        boolean sync;

        void clear() {
            there = false;
            key = 0;
            priority = 0;
            rank = 0;
            sync = false;
        }

        void copyFrom(Message other) {
            there = other.there;
            key = other.key;
            priority = other.priority;
            rank = other.rank;
            sync = other.sync;
        }
    }

    /** A link as one end has it. */
    private static final class Port {
        // Both ports of a link hold the same, so that an end needs nothing but its ports.
        boolean up;
        boolean muted;
        int key;
        int priority;
        final Message heard = new Message();
        final Message said = new Message();
        int age;
        int how;
        boolean chosen;
        // One below 0 while the link is not chosen: the tick that chooses it counts up to 0.
        int chosenFor;
        int begun;

        /** Of a link that there is not: DOWN for good, so that loops may run over all ports. */
        void clear() {
            up = false;
            muted = false;
            key = 0;
            priority = 0;
            heard.clear();
            said.clear();
            age = 0;
            how = DOWN;
            chosen = false;
            chosenFor = -1;
            begun = 0;
        }

        void begin(int itsKey, int itsPriority) {
            up = true;
            how = ALONE;
            key = itsKey;
            priority = itsPriority;
        }

        void copyFrom(Port other) {
            up = other.up;
            muted = other.muted;
            key = other.key;
            priority = other.priority;
            heard.copyFrom(other.heard);
            said.copyFrom(other.said);
            age = other.age;
            how = other.how;
            chosen = other.chosen;
            chosenFor = other.chosenFor;
            begun = other.begun;
        }

        void hear(Message sent) {
            if (!up) {
                heard.there = false;
            } else if (sent.there) {
                heard.copyFrom(sent);
                age = 0;
            } else if (heard.there) {
                age++;
                heard.there = age < TOO_OLD;
            }
        }

        int priorityBy(boolean own) {
            return own ? priority : heard.priority;
        }

        boolean hasPairOf(Port other) {
            return key == other.key && heard.key == other.heard.key;
        }

        void judge(int wait) {
            chosenFor = chosen ? chosenFor + 1 : -1;
            int was = how;
            how = howNow(wait);
            if (how == SENDING && was != SENDING) {
                begun++;
            }
        }

        private int howNow(int wait) {
            if (!up) {
                return DOWN;
            }
            if (!heard.there) {
                return ALONE;
            }
            if (!chosen) {
                return SPARE;
            }
            if (chosenFor < wait) {
                return WAITING;
            }
            return heard.sync ? SENDING : READY;
        }

        void say(int rank) {
            said.there = up && !muted;
            said.key = key;
            said.priority = priority;
            said.rank = rank;
            said.sync = how == READY || how == SENDING;
        }

        int look(int what) {
            switch (what) {
                case 0: return key;
                case 1: return priority;
                case 2: return how;
                case 3: return known(age);
                case 4: return known(heard.key);
                case 5: return known(heard.priority);
                case 6: return known(heard.rank);
                case 7: return known(heard.sync ? 1 : 0);
                case 8: return chosen ? chosenFor : NONE;
                case 9: return begun;
                case 10: return muted ? 1 : 0;
                default: return BAD;
            }
        }

        private int known(int v) {
            return heard.there ? v : NONE;
        }

        boolean isOf(int what) {
            switch (what) {
                case 0: return heard.there;
                case 1: return chosen;
                default: return how == SENDING;
            }
        }
    }

    /** A flow at one end. */
    private static final class Flow {
        int link;
        int held;

        void clear() {
            link = NONE;
            held = 0;
        }

        void copyFrom(Flow other) {
            link = other.link;
            held = other.held;
        }

        void deal(int wanted, int drain) {
            if (held > 0) {
                held--;
                if (held == 0) {
                    link = wanted;
                }
            } else if (wanted != link) {
                if (link == NONE || wanted == NONE || drain == 0) {
                    link = wanted;
                } else {
                    held = drain;
                }
            }
        }
    }

    /** One end: what it has itself and what it knows. */
    private static final class End {
        final int number;
        int rank;
        final Port[] ports;
        final Flow[] flows;

        End(int itsNumber) {
            number = itsNumber;
            ports = new Port[LINKS];
            for (int l = 0; l < ports.length; l++) {
                ports[l] = new Port();
            }
            flows = new Flow[FLOWS];
            for (int f = 0; f < flows.length; f++) {
                flows[f] = new Flow();
            }
        }

        void clear() {
            rank = 5;
            for (Port port : ports) {
                port.clear();
            }
            for (Flow flow : flows) {
                flow.clear();
            }
        }

        void copyFrom(End other) {
            rank = other.rank;
            for (int l = 0; l < ports.length && l < other.ports.length; l++) {
                ports[l].copyFrom(other.ports[l]);
            }
            for (int f = 0; f < flows.length && f < other.flows.length; f++) {
                flows[f].copyFrom(other.flows[f]);
            }
        }

        boolean looksLike(End other) {
            for (int l = 0; l < ports.length && l < other.ports.length; l++) {
                if (ports[l].how != other.ports[l].how) {
                    return false;
                }
            }
            for (int f = 0; f < flows.length && f < other.flows.length; f++) {
                if (flows[f].link != other.flows[f].link) {
                    return false;
                }
            }
            return true;
        }

        Port portAt(int l) {
            return l >= 0 && l < ports.length ? ports[l] : null;
        }

        Flow flowAt(int f) {
            return f >= 0 && f < flows.length ? flows[f] : null;
        }

        void hearFrom(End other) {
            for (int l = 0; l < ports.length && l < other.ports.length; l++) {
                ports[l].hear(other.ports[l].said);
            }
        }

        void choose(int most) {
            for (Port port : ports) {
                port.chosen = false;
            }
            boolean own = decides();
            Port first = bestOpen(own, null);
            Port next = first;
            for (int taken = 0; taken < most && next != null; taken++) {
                next.chosen = true;
                next = bestOpen(own, first);
            }
        }

        private boolean decides() {
            for (Port port : ports) {
                if (port.heard.there) {
                    int others = port.heard.rank;
                    return number == 0 ? rank <= others : rank < others;
                }
            }
            return true;
        }

        /** The first open link that is not chosen yet, of the pair of another if there is one. */
        private Port bestOpen(boolean own, Port like) {
            Port best = null;
            for (Port port : ports) {
                boolean fits = port.heard.there && !port.chosen
                        && (like == null || port.hasPairOf(like));
                if (fits && (best == null || port.priorityBy(own) < best.priorityBy(own))) {
                    best = port;
                }
            }
            return best;
        }

        void judgeAndSay(int wait) {
            for (Port port : ports) {
                port.judge(wait);
                port.say(rank);
            }
        }

        void dealFlows(int drain) {
            int members = howManySending();
            for (int f = 0; f < flows.length; f++) {
                flows[f].deal(wantedBy(f, members), drain);
            }
        }

        int wantedBy(int f, int members) {
            if (members <= 0) {
                return NONE;
            }
            int ahead = (7 * f + 3) % members;
            for (int l = 0; l < ports.length; l++) {
                if (ports[l].how == SENDING) {
                    if (ahead == 0) {
                        return l;
                    }
                    ahead--;
                }
            }
            return NONE;
        }

        int howManySending() {
            int many = 0;
            for (Port port : ports) {
                many += port.how == SENDING ? 1 : 0;
            }
            return many;
        }

        int howManyUp() {
            int many = 0;
            for (Port port : ports) {
                many += port.up ? 1 : 0;
            }
            return many;
        }

        int howManyMuted() {
            int many = 0;
            for (Port port : ports) {
                many += port.muted ? 1 : 0;
            }
            return many;
        }

        int bits(int what) {
            int bits = 0;
            for (int l = 0; l < ports.length; l++) {
                if (ports[l].isOf(what)) {
                    bits |= 1 << l;
                }
            }
            return bits;
        }
    }

    /** Both ends and all that a change can change. */
    private static final class Net {
        final End zero = new End(0);
        final End one = new End(1);
        int links;
        int most;
        int wait;
        int drain;
        int ticks;

        private void clear() {
            zero.clear();
            one.clear();
            links = 0;
            most = 4;
            wait = 2;
            drain = 1;
            ticks = 0;
        }

        void copyFrom(Net other) {
            zero.copyFrom(other.zero);
            one.copyFrom(other.one);
            links = other.links;
            most = other.most;
            wait = other.wait;
            drain = other.drain;
            ticks = other.ticks;
        }

        boolean looksLike(Net other) {
            return zero.looksLike(other.zero) && one.looksLike(other.one);
        }

        End endOf(int e) {
            if (e == 0) {
                return zero;
            }
            return e == 1 ? one : null;
        }

        Port portOf(int e, int l) {
            End end = endOf(e);
            return end == null || l >= links ? null : end.portAt(l);
        }

        Flow flowOf(int e, int f) {
            End end = endOf(e);
            return end == null ? null : end.flowAt(f);
        }

        void plugLink(int l, boolean up) {
            Port here = portOf(0, l);
            Port there = portOf(1, l);
            if (here != null && there != null) {
                here.up = up;
                there.up = up;
            }
        }

        int setting(int what) {
            switch (what) {
                case 0: return zero.rank;
                case 1: return one.rank;
                default: return most;
            }
        }

        void changeSetting(int what, int v) {
            switch (what) {
                case 0: zero.rank = v; break;
                case 1: one.rank = v; break;
                default: most = v; break;
            }
        }

        void step() {
            // Both ends hear first: what they hear was said in the tick ahead, not in this one.
            zero.hearFrom(one);
            one.hearFrom(zero);
            stepOf(zero);
            stepOf(one);
            ticks++;
        }

        private void stepOf(End end) {
            end.choose(most);
            end.judgeAndSay(wait);
            end.dealFlows(drain);
        }

        /** Lays a text without fault. */
        void layOut(Text text) {
            clear();
            int place = 0;
            for (int item = 0; item < LETTERS && place < text.size; item++) {
                layItem(text, place);
                place += text.lengthOfItem(place);
            }
        }

        private void layItem(Text text, int place) {
            switch (text.letterAt(place)) {
                case 'l':
                    addLink(text, place);
                    break;
                case 'x':
                    zero.rank = text.number(place, 0);
                    one.rank = text.number(place, 1);
                    break;
                case 'm':
                    most = text.number(place, 0);
                    wait = text.number(place, 1);
                    drain = text.number(place, 2);
                    break;
                default:
                    break;
            }
        }

        private void addLink(Text text, int place) {
            Port here = zero.portAt(links);
            Port there = one.portAt(links);
            if (here != null && there != null) {
                here.begin(text.number(place, 0), text.number(place, 1));
                there.begin(text.number(place, 2), text.number(place, 3));
                links++;
            }
        }
    }

    /** The nets as they stood ahead of the latest changes. */
    private static final class History {
        private final Net[] kept;
        private int next;
        int size;

        History() {
            kept = new Net[UNDOABLE];
            for (int i = 0; i < kept.length; i++) {
                kept[i] = new Net();
            }
        }

        void clear() {
            next = 0;
            size = 0;
        }

        void keep(Net net) {
            if (next < 0 || next >= kept.length) {
                return;
            }
            kept[next].copyFrom(net);
            next = next + 1 < kept.length ? next + 1 : 0;
            size = Math.min(size + 1, kept.length);
        }

        Net takeLatest() {
            int latest = next > 0 ? next - 1 : kept.length - 1;
            if (size == 0 || latest < 0 || latest >= kept.length) {
                return null;
            }
            next = latest;
            size--;
            return kept[latest];
        }
    }

    /** The text and how its items are read. */
    private static final class Text {
        private final int[] letters = new int[LETTERS];
        int size;

        boolean add(int letter) {
            if (size < 0 || size >= letters.length) {
                return false;
            }
            letters[size] = letter;
            size++;
            return true;
        }

        void clear() {
            size = 0;
        }

        /** The letter at a place, 0 behind the text: so no item reads over its end. */
        int letterAt(int place) {
            return place >= 0 && place < size && place < letters.length ? letters[place] : 0;
        }

        int firstFault() {
            int links = 0;
            int place = 0;
            for (int item = 0; item < LETTERS && place < size; item++) {
                if (letterAt(place) == 'l') {
                    links++;
                }
                if (!isItem(place) || links > LINKS) {
                    return place;
                }
                place += lengthOfItem(place);
            }
            return NONE;
        }

        /** Asked of a text without fault: there an l stands at the head of items alone. */
        boolean tellsLink() {
            for (int place = 0; place < size; place++) {
                if (letterAt(place) == 'l') {
                    return true;
                }
            }
            return false;
        }

        private boolean isItem(int place) {
            int numbers = numbersOfItem(place);
            for (int i = 0; i < numbers; i++) {
                int behind = letterAt(place + 2 * i + 2);
                if (!isFigure(number(place, i)) || behind != (i + 1 < numbers ? ',' : ';')) {
                    return false;
                }
            }
            return numbers > 0 && (letterAt(place) != 'm' || isMost(number(place, 0)));
        }

        private int numbersOfItem(int place) {
            switch (letterAt(place)) {
                case 'l': return 4;
                case 'x': return 2;
                case 'm': return 3;
                default: return 0;
            }
        }

        /** Its letter, its numbers and a sign behind each of them. */
        int lengthOfItem(int place) {
            return 1 + 2 * numbersOfItem(place);
        }

        int number(int place, int i) {
            return letterAt(place + 2 * i + 1) - '0';
        }
    }
}
