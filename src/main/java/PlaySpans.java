import java.util.Arrays;

/** Whether a row of notes can be played on an instrument, and how with the least pains. */
public final class PlaySpans {
    public static final int BAD = -1, NONE = -2, NOT = -3, FULL = -4;

    private static final int KEYBOARD = 0, STRINGS = 1, WIND = 2, SLIDE = 3, STICKS = 4;
    private static final int[] NOTES_AT_MOST = {3, 3, 1, 1, 2};

    private static final int MOVE = 0, LUNG = 1, BREATH = 2, LOW = 3, HIGH = 4, BASE = 5, OPEN = 6;
    private static final int[] BOUND_FROM = {0, 1, 0, 0, 0, 0, 0, 0, 0, 0};
    private static final int[] BOUND_TO = {100, 2000, 200, 127, 127, 100, 127, 127, 127, 127};

    private static final int EVENTS_AT_MOST = 40;
    private static final int NOTES_OF_EVENT = 3;
    private static final int LATEST = 100000;
    private static final int LONGEST = 1000;
    private static final int HIGHEST_PITCH = 127;
    private static final int NO_PITCH = -1;
    private static final int HIGHEST_PIN = 99;
    private static final int UNPIN = -1;
    private static final int HIGHEST_ASKED = 300;
    private static final int WAYS_AT_MOST = 1000000000;
    private static final int LEFT = 0, RIGHT = 1, HANDS = 2;

    private final int instrument;
    private final Player player;
    private final Search search;
    /** Its rows are by far the largest, so they are made only for an object that is asked for them. */
    private Tally tally;

    public PlaySpans(int instrument) {
        this.instrument = Math.max(KEYBOARD, Math.min(STICKS, instrument));
        this.player = playerOf(this.instrument);
        this.search = new Search(this.player.width);
        this.tally = null;
    }

    private static Player playerOf(int instrument) {
        switch (instrument) {
            case KEYBOARD:
                return new Keyboard();
            case STRINGS:
                return new Strings();
            case WIND:
                return new Wind();
            case SLIDE:
                return new Slide();
            default:
                return new Sticks();
        }
    }

    public int event(int hand, int time, int length, int p, int q, int r) {
        int notes = Piece.howMany(p, q, r);
        if (!hasHand(hand) || time < 0 || time > LATEST || length < 1 || length > LONGEST
                || notes < 1 || notes > NOTES_AT_MOST[instrument]) {
            return BAD;
        }
        if (!fits(hand, time)) {
            return NOT;
        }
        if (player.piece.count >= EVENTS_AT_MOST) {
            return FULL;
        }
        player.piece.add(hand, time, length, p, q, r);
        forgetAnswers();
        return player.piece.count - 1;
    }

    public int drop() {
        if (player.piece.count == 0) {
            return NONE;
        }
        player.piece.count--;
        player.listed = Math.min(player.listed, player.piece.count);
        forgetAnswers();
        return player.piece.count;
    }

    public int bound(int what, int v) {
        if (what < 0 || what >= BOUND_FROM.length || v < BOUND_FROM[what] || v > BOUND_TO[what]) {
            return BAD;
        }
        int old = player.piece.boundOf(what);
        player.piece.setBound(what, v);
        player.listed = 0;
        forgetAnswers();
        return old;
    }

    public int pin(int i, int state) {
        if (!player.piece.has(i) || state < UNPIN || state > HIGHEST_PIN) {
            return BAD;
        }
        int old = player.piece.pinOf(i);
        player.piece.setPin(i, state == UNPIN ? NONE : state);
        forgetAnswers();
        return old;
    }

    public int states(int i) {
        if (!player.piece.has(i)) {
            return BAD;
        }
        player.listAll();
        return player.countOf(i);
    }

    public int state(int i, int k, int what) {
        if (!hasState(i, k)) {
            return BAD;
        }
        switch (what) {
            case 0:
                return player.priceOf(i, k);
            case 1:
                return player.firstOf(i, k);
            case 2:
                return player.secondOf(i, k);
            default:
                return BAD;
        }
    }

    public int step(int i, int k, int l) {
        if (!hasState(i, k)) {
            return BAD;
        }
        int next = player.piece.after(i);
        return hasState(next, l) ? player.stepPrice(i, k, next, l) : BAD;
    }

    public int price() {
        search.refresh(player);
        return search.least;
    }

    public int way(int i) {
        if (!player.piece.has(i)) {
            return BAD;
        }
        search.refresh(player);
        return search.least < 0 ? NONE : search.chosenOf(i);
    }

    public int stuck() {
        search.refresh(player);
        return search.stuckAt;
    }

    public int ways(int most) {
        if (most < 0 || most > HIGHEST_ASKED) {
            return BAD;
        }
        if (tally == null) {
            tally = new Tally(player.width);
        }
        if (tally.upTo < most) {
            player.listAll();
            tally.run(player, most);
        }
        return tally.sumTo(most);
    }

    public int told(int what) {
        switch (what) {
            case 0:
                return player.piece.count;
            case 1:
                return player.piece.countOfHand(LEFT);
            case 2:
                return player.piece.countOfHand(RIGHT);
            case 3:
                return instrument;
            case 4:
                return player.piece.countPinned();
            default:
                return BAD;
        }
    }

    public int about(int i, int what) {
        Piece piece = player.piece;
        if (!piece.has(i)) {
            return BAD;
        }
        switch (what) {
            case 0:
                return piece.handOf(i);
            case 1:
                return piece.timeOf(i);
            case 2:
                return piece.lengthOf(i);
            case 3:
                return piece.sizeOf(i);
            case 4:
            case 5:
            case 6:
                return piece.pitchOf(i, what - 4);
            case 7:
                return piece.pinOf(i);
            default:
                return BAD;
        }
    }

    private boolean hasHand(int hand) {
        return hand == LEFT || hand == RIGHT && instrument == KEYBOARD;
    }

    private boolean hasState(int i, int k) {
        if (!player.piece.has(i)) {
            return false;
        }
        player.listAll();
        return k >= 0 && k < player.countOf(i);
    }

    private boolean fits(int hand, int time) {
        Piece piece = player.piece;
        int before = piece.lastOfHand(hand, piece.count);
        if (before >= 0) {
            boolean oneAtOnce = instrument == WIND || instrument == SLIDE;
            int ahead = piece.timeOf(before);
            if (time <= ahead || oneAtOnce && time < ahead + piece.lengthOf(before)) {
                return false;
            }
        }
        return piece.count == 0 || time >= piece.timeOf(piece.count - 1);
    }

    private void forgetAnswers() {
        search.current = false;
        if (tally != null) {
            tally.upTo = -1;
        }
    }

    /** The EVENTS and the BOUNDS, as they were given. */
    private static final class Piece {
        private final int[] bounds = {10, 400, 30, 0, 127, 34, 55, 62, 69, 76};
        private final int[] hands = new int[EVENTS_AT_MOST];
        private final int[] times = new int[EVENTS_AT_MOST];
        private final int[] lengths = new int[EVENTS_AT_MOST];
        private final int[] sizes = new int[EVENTS_AT_MOST];
        private final int[] pins = new int[EVENTS_AT_MOST];
        private final int[] pitches = new int[EVENTS_AT_MOST * NOTES_OF_EVENT];
        private int count = 0;

        /** How many NOTES these are, 0 if they are no NOTES of an EVENT. */
        private static int howMany(int p, int q, int r) {
            if (p < 0 || p > HIGHEST_PITCH) {
                return 0;
            }
            if (q == NO_PITCH) {
                return r == NO_PITCH ? 1 : 0;
            }
            if (q <= p || q > HIGHEST_PITCH) {
                return 0;
            }
            if (r == NO_PITCH) {
                return 2;
            }
            return r > q && r <= HIGHEST_PITCH ? 3 : 0;
        }

        private void add(int hand, int time, int length, int p, int q, int r) {
            if (count < 0 || count >= EVENTS_AT_MOST) {
                return;
            }
            hands[count] = hand;
            times[count] = time;
            lengths[count] = length;
            sizes[count] = howMany(p, q, r);
            pins[count] = NONE;
            pitches[count * NOTES_OF_EVENT] = p;
            pitches[count * NOTES_OF_EVENT + 1] = q;
            pitches[count * NOTES_OF_EVENT + 2] = r;
            count++;
        }

        private boolean has(int i) {
            return i >= 0 && i < count;
        }

        private int boundOf(int what) {
            return what >= 0 && what < bounds.length ? bounds[what] : 0;
        }

        private void setBound(int what, int v) {
            if (what >= 0 && what < bounds.length) {
                bounds[what] = v;
            }
        }

        private int handOf(int i) {
            return i >= 0 && i < count ? hands[i] : LEFT;
        }

        private int timeOf(int i) {
            return i >= 0 && i < count ? times[i] : 0;
        }

        private int lengthOf(int i) {
            return i >= 0 && i < count ? lengths[i] : 0;
        }

        private int sizeOf(int i) {
            return i >= 0 && i < count ? sizes[i] : 0;
        }

        private int pitchOf(int i, int note) {
            boolean there = i >= 0 && i < count && note >= 0 && note < NOTES_OF_EVENT;
            return there ? pitches[i * NOTES_OF_EVENT + note] : NO_PITCH;
        }

        private int lowestOf(int i) {
            return i >= 0 && i < count ? pitches[i * NOTES_OF_EVENT] : NO_PITCH;
        }

        private int highestOf(int i) {
            int at = i >= 0 && i < count ? i * NOTES_OF_EVENT + sizes[i] - 1 : -1;
            return at >= 0 && at < pitches.length ? pitches[at] : NO_PITCH;
        }

        private int pinOf(int i) {
            return i >= 0 && i < count ? pins[i] : NONE;
        }

        private void setPin(int i, int number) {
            if (i >= 0 && i < count) {
                pins[i] = number;
            }
        }

        private boolean allows(int i, int k) {
            int pinned = pinOf(i);
            return pinned == NONE || pinned == k;
        }

        private boolean inCompass(int i) {
            return lowestOf(i) >= bounds[LOW] && highestOf(i) <= bounds[HIGH];
        }

        /** The first EVENT of a HAND from EVENT i on, -1 if there is none. */
        private int firstOfHand(int hand, int i) {
            for (int j = Math.max(0, i); j < count; j++) {
                if (hands[j] == hand) {
                    return j;
                }
            }
            return -1;
        }

        /** The last EVENT of a HAND ahead of EVENT i, -1 if there is none. */
        private int lastOfHand(int hand, int i) {
            for (int j = Math.min(i, count) - 1; j >= 0; j--) {
                if (hands[j] == hand) {
                    return j;
                }
            }
            return -1;
        }

        private int after(int i) {
            return firstOfHand(handOf(i), i + 1);
        }

        private int before(int i) {
            return lastOfHand(handOf(i), i);
        }

        private int countOfHand(int hand) {
            int found = 0;
            for (int i = 0; i < count; i++) {
                found += hands[i] == hand ? 1 : 0;
            }
            return found;
        }

        private int countPinned() {
            int found = 0;
            for (int i = 0; i < count; i++) {
                found += pins[i] != NONE ? 1 : 0;
            }
            return found;
        }
    }

    /** A piece on an instrument: the STATES of its EVENTS, each as its PRICE and two numbers more, and the STEPS. */
    private abstract static class Player {
        final Piece piece = new Piece();
        /** How many STATES an EVENT can have at most. */
        final int width;
        private final int[] counts = new int[EVENTS_AT_MOST];
        private final int[] prices;
        private final int[] firsts;
        private final int[] seconds;
        /** The STATES of this many EVENTS stand in the rows: an EVENT's STATES do not hang on later ones. */
        private int listed = 0;

        Player(int width) {
            this.width = Math.max(1, width);
            this.prices = new int[EVENTS_AT_MOST * this.width];
            this.firsts = new int[EVENTS_AT_MOST * this.width];
            this.seconds = new int[EVENTS_AT_MOST * this.width];
        }

        /** Adds the STATES of EVENT i, in the order told, as if all its NOTES were within LOW and HIGH. */
        abstract void listOne(int i);

        /** The PRICE of a STEP between STATES of two EVENTS that follow each other in a CHAIN, or NONE. */
        abstract int stepPrice(int i, int k, int next, int l);

        final void listAll() {
            for (int i = Math.max(0, listed); i < piece.count && i < EVENTS_AT_MOST; i++) {
                counts[i] = 0;
                if (piece.inCompass(i)) {
                    listOne(i);
                }
            }
            listed = piece.count;
        }

        final void addState(int i, int price, int first, int second) {
            if (i < 0 || i >= EVENTS_AT_MOST || counts[i] < 0 || counts[i] >= width) {
                return;
            }
            int at = i * width + counts[i];
            prices[at] = price;
            firsts[at] = first;
            seconds[at] = second;
            counts[i]++;
        }

        final int countOf(int i) {
            return i >= 0 && i < EVENTS_AT_MOST ? counts[i] : 0;
        }

        final int priceOf(int i, int k) {
            int at = i * width + k;
            return at >= 0 && at < prices.length ? prices[at] : 0;
        }

        final int firstOf(int i, int k) {
            int at = i * width + k;
            return at >= 0 && at < firsts.length ? firsts[at] : 0;
        }

        final int secondOf(int i, int k) {
            int at = i * width + k;
            return at >= 0 && at < seconds.length ? seconds[at] : 0;
        }

        final boolean tooFar(int wayLong, int i, int next) {
            return wayLong * piece.boundOf(MOVE) > piece.timeOf(next) - piece.timeOf(i);
        }
    }

    /** STATES: the FINGERS as bits, the PLACE. */
    private static final class Keyboard extends Player {
        private static final int FINGERS = 5;
        private static final int SAME_FINGER = 3;

        Keyboard() {
            super(10);
        }

        void listOne(int i) {
            for (int fingers = 1; fingers < 1 << FINGERS; fingers++) {
                if (Integer.bitCount(fingers) == piece.sizeOf(i)) {
                    int price = stretch(i, fingers);
                    if (price != NONE) {
                        addState(i, price, fingers, placeOf(i, fingers));
                    }
                }
            }
        }

        /** The PRICE of these FINGERS on EVENT i, NONE if they do not reach. */
        private int stretch(int i, int fingers) {
            int price = 0;
            int finger = fingerAbove(fingers, 0);
            for (int n = 1; n < piece.sizeOf(i); n++) {
                int nextFinger = fingerAbove(fingers, finger);
                int d = nextFinger - finger;
                int e = finger == 1 ? 1 : 0;
                int s = Math.abs(noteOfFinger(i, n) - noteOfFinger(i, n - 1));
                if (s > 3 * d + 4 * e) {
                    return NONE;
                }
                price += Math.max(0, s - 2 * d - 2 * e) + Math.max(0, d - s);
                finger = nextFinger;
            }
            return price;
        }

        private static int fingerAbove(int fingers, int finger) {
            for (int f = finger + 1; f <= FINGERS; f++) {
                if ((fingers >> f - 1 & 1) == 1) {
                    return f;
                }
            }
            return FINGERS;
        }

        /** The PITCH under the n-th of the FINGERS, from the lowest FINGER: the HANDS mirror each other. */
        private int noteOfFinger(int i, int n) {
            return piece.pitchOf(i, piece.handOf(i) == RIGHT ? n : piece.sizeOf(i) - 1 - n);
        }

        private int placeOf(int i, int fingers) {
            int reach = 2 * (fingerAbove(fingers, 0) - 1);
            return piece.handOf(i) == RIGHT ? piece.lowestOf(i) - reach : piece.highestOf(i) + reach;
        }

        int stepPrice(int i, int k, int next, int l) {
            int wayLong = Math.abs(secondOf(i, k) - secondOf(next, l));
            if (tooFar(wayLong, i, next)) {
                return NONE;
            }
            boolean single = piece.sizeOf(i) == 1 && piece.sizeOf(next) == 1;
            boolean slips = single && piece.lowestOf(i) != piece.lowestOf(next)
                    && firstOf(i, k) == firstOf(next, l);
            return wayLong + (slips ? SAME_FINGER : 0);
        }
    }

    /** STATES: the POSITION, the lowest STRING. */
    private static final class Strings extends Player {
        private static final int POSITIONS = 12;
        private static final int STRING_COUNT = 4;
        private static final int REACH = 4;

        Strings() {
            super(POSITIONS * STRING_COUNT);
        }

        void listOne(int i) {
            for (int position = 0; position < POSITIONS; position++) {
                for (int t = 0; t + piece.sizeOf(i) <= STRING_COUNT; t++) {
                    int price = stops(i, position, t);
                    if (price != NONE) {
                        addState(i, price, position, t);
                    }
                }
            }
        }

        /** The PRICE of EVENT i in a POSITION from STRING t on, NONE if a NOTE can't be stopped there. */
        private int stops(int i, int position, int t) {
            int price = 0;
            for (int n = 0; n < piece.sizeOf(i); n++) {
                int stop = piece.pitchOf(i, n) - piece.boundOf(OPEN + t + n);
                if (stop != 0) {
                    int finger = stop - position;
                    if (finger < 1 || finger > REACH) {
                        return NONE;
                    }
                    price += finger == REACH ? 2 : 1;
                }
            }
            return price;
        }

        int stepPrice(int i, int k, int next, int l) {
            int wayLong = Math.abs(firstOf(i, k) - firstOf(next, l));
            if (tooFar(wayLong, i, next)) {
                return NONE;
            }
            return 2 * wayLong + Math.abs(secondOf(i, k) - secondOf(next, l));
        }
    }

    /** STATES: the EVENT with which the BREATH began, 0. */
    private static final class Wind extends Player {
        Wind() {
            super(EVENTS_AT_MOST);
        }

        void listOne(int i) {
            for (int j = earliestBreath(i); j <= i; j++) {
                addState(i, 0, j, 0);
            }
        }

        /** The least EVENT whose BREATH lasts through EVENT i; i + 1, if not even its own does. */
        private int earliestBreath(int i) {
            int earliest = i + 1;
            int air = piece.boundOf(LUNG);
            for (int j = i; j >= 0; j--) {
                air -= piece.lengthOf(j);
                if (air < 0) {
                    return earliest;
                }
                earliest = j;
            }
            return earliest;
        }

        int stepPrice(int i, int k, int next, int l) {
            if (firstOf(i, k) == firstOf(next, l)) {
                return 0;
            }
            return firstOf(next, l) == next ? breathPrice(i, next) : NONE;
        }

        private int breathPrice(int i, int next) {
            int rest = piece.timeOf(next) - piece.timeOf(i) - piece.lengthOf(i);
            int lack = piece.boundOf(BREATH) - rest;
            return lack >= piece.lengthOf(i) ? NONE : 1 + 2 * Math.max(0, lack);
        }
    }

    /** STATES: the PLACE, 0. */
    private static final class Slide extends Player {
        private static final int PLACES = 7;
        private static final int FAR_PLACE = 4;
        private static final int[] PARTIALS = {12, 19, 24, 28, 31, 34, 36, 38, 40};

        Slide() {
            super(PLACES);
        }

        void listOne(int i) {
            for (int place = 0; place < PLACES; place++) {
                if (isPartial(piece.lowestOf(i) + place - piece.boundOf(BASE))) {
                    addState(i, Math.max(0, place - FAR_PLACE), place, 0);
                }
            }
        }

        private static boolean isPartial(int above) {
            for (int partial : PARTIALS) {
                if (partial == above) {
                    return true;
                }
            }
            return false;
        }

        int stepPrice(int i, int k, int next, int l) {
            int wayLong = Math.abs(firstOf(i, k) - firstOf(next, l));
            return tooFar(wayLong, i, next) ? NONE : wayLong;
        }
    }

    /** STATES: the HAND or BOTH, OTHER. */
    private static final class Sticks extends Player {
        private static final int BOTH = 2;
        private static final int NEVER = -1;
        private static final int CROSSED = 4;
        private static final int SAME_HAND = 2;

        Sticks() {
            super(HANDS * EVENTS_AT_MOST);
        }

        void listOne(int i) {
            if (piece.sizeOf(i) == 2) {
                addState(i, 0, BOTH, NEVER);
                return;
            }
            int earliest = latestOfTwo(i);
            for (int hand = 0; hand < HANDS; hand++) {
                for (int other = earliest; other < i; other++) {
                    addState(i, crossing(i, hand, other), hand, other);
                }
            }
        }

        /** The latest EVENT of two NOTES ahead of EVENT i: OTHER can't lie before it; NEVER, if there is none. */
        private int latestOfTwo(int i) {
            for (int j = i - 1; j >= 0; j--) {
                if (piece.sizeOf(j) == 2) {
                    return j;
                }
            }
            return NEVER;
        }

        private int crossing(int i, int hand, int other) {
            if (other == NEVER) {
                return 0;
            }
            int over = piece.lowestOf(i) - pitchBy(1 - hand, other);
            return (hand == LEFT ? over > 0 : over < 0) ? CROSSED : 0;
        }

        /** The PITCH in an EVENT in which the HAND plays. */
        private int pitchBy(int hand, int i) {
            return hand == LEFT ? piece.lowestOf(i) : piece.highestOf(i);
        }

        int stepPrice(int i, int k, int next, int l) {
            int plays = firstOf(next, l);
            if (plays != BOTH && lastPlayed(i, k, 1 - plays) != secondOf(next, l)) {
                return NONE;
            }
            int price = plays != BOTH && firstOf(i, k) == plays ? SAME_HAND : 0;
            for (int hand = 0; hand < HANDS; hand++) {
                int last = lastPlayed(i, k, hand);
                if (last != NEVER && (plays == BOTH || plays == hand)) {
                    int wayLong = Math.abs(pitchBy(hand, next) - pitchBy(hand, last));
                    if (tooFar(wayLong, last, next)) {
                        return NONE;
                    }
                    price += wayLong;
                }
            }
            return price;
        }

        /** The EVENT, up to i, in which the HAND played last, as STATE k of EVENT i tells. */
        private int lastPlayed(int i, int k, int hand) {
            int played = firstOf(i, k);
            return played == BOTH || played == hand ? i : secondOf(i, k);
        }
    }

    /** THE WAY, its PRICE, and where a CHAIN is stuck. */
    private static final class Search {
        private static final int ENDLESS = 1000000000;

        private final int width;
        /** For each STATE how dear the row from it to the end of its CHAIN is; at first only whether it is reached. */
        private final int[] pains;
        private final int[] chosen = new int[EVENTS_AT_MOST];
        private int least = 0;
        private int stuckAt = NONE;
        private boolean current = false;

        Search(int width) {
            this.width = Math.max(1, width);
            this.pains = new int[EVENTS_AT_MOST * this.width];
        }

        void refresh(Player player) {
            if (current) {
                return;
            }
            player.listAll();
            stuckAt = firstStuck(player);
            least = NONE;
            if (stuckAt == NONE) {
                weighRests(player);
                chooseWay(player);
                least = sumOfChains(player.piece);
            }
            current = true;
        }

        int chosenOf(int i) {
            return i >= 0 && i < EVENTS_AT_MOST ? chosen[i] : NONE;
        }

        private int painsOf(int i, int k) {
            int at = i * width + k;
            return at >= 0 && at < pains.length ? pains[at] : ENDLESS;
        }

        private void setPains(int i, int k, int v) {
            int at = i * width + k;
            if (at >= 0 && at < pains.length) {
                pains[at] = v;
            }
        }

        private int firstStuck(Player player) {
            for (int i = 0; i < player.piece.count; i++) {
                if (!isReached(player, i)) {
                    return i;
                }
            }
            return NONE;
        }

        private boolean isReached(Player player, int i) {
            int before = player.piece.before(i);
            boolean reached = false;
            for (int k = 0; k < player.countOf(i); k++) {
                boolean comes = player.piece.allows(i, k) && (before < 0 || canCome(player, before, i, k));
                setPains(i, k, comes ? 0 : ENDLESS);
                reached = reached || comes;
            }
            return reached;
        }

        private boolean canCome(Player player, int before, int i, int k) {
            for (int j = 0; j < player.countOf(before); j++) {
                if (painsOf(before, j) == 0 && player.stepPrice(before, j, i, k) != NONE) {
                    return true;
                }
            }
            return false;
        }

        private void weighRests(Player player) {
            for (int i = player.piece.count - 1; i >= 0; i--) {
                int next = player.piece.after(i);
                for (int k = 0; k < player.countOf(i); k++) {
                    int rest = ENDLESS;
                    if (player.piece.allows(i, k)) {
                        rest = next < 0 ? 0 : cheapestOnward(player, i, k, next);
                    }
                    setPains(i, k, Math.min(ENDLESS, rest + player.priceOf(i, k)));
                }
            }
        }

        private int cheapestOnward(Player player, int i, int k, int next) {
            int cheapest = ENDLESS;
            for (int l = 0; l < player.countOf(next); l++) {
                int stepPrice = player.stepPrice(i, k, next, l);
                if (stepPrice != NONE) {
                    cheapest = Math.min(cheapest, stepPrice + painsOf(next, l));
                }
            }
            return cheapest;
        }

        /** The CHAINS do not touch each other: the first choice in each is the first one of all EVENTS too. */
        private void chooseWay(Player player) {
            for (int i = 0; i < player.piece.count && i < EVENTS_AT_MOST; i++) {
                chosen[i] = bestState(player, player.piece.before(i), i);
            }
        }

        private int bestState(Player player, int before, int i) {
            int best = 0;
            int cheapest = ENDLESS;
            for (int k = 0; k < player.countOf(i); k++) {
                int stepPrice = before < 0 ? 0 : player.stepPrice(before, chosenOf(before), i, k);
                if (stepPrice != NONE && stepPrice + painsOf(i, k) < cheapest) {
                    best = k;
                    cheapest = stepPrice + painsOf(i, k);
                }
            }
            return best;
        }

        private int sumOfChains(Piece piece) {
            int sum = 0;
            for (int hand = 0; hand < HANDS; hand++) {
                int first = piece.firstOfHand(hand, 0);
                sum += first < 0 ? 0 : painsOf(first, chosenOf(first));
            }
            return sum;
        }
    }

    /** How many WAYS there are of each PRICE; every number stays at WAYS_AT_MOST once it is there. */
    private static final class Tally {
        private static final int ROW = HIGHEST_ASKED + 1;

        /** A row for each STATE of an EVENT: how many rows of STATES up to it there are of each PRICE. */
        private int[] here;
        private int[] there;
        private int[] all = new int[ROW];
        private int[] joined = new int[ROW];
        private final int[] ofChain = new int[ROW];
        /** The numbers are right for PRICES up to this one. */
        private int upTo = -1;

        Tally(int width) {
            this.here = new int[Math.max(1, width) * ROW];
            this.there = new int[Math.max(1, width) * ROW];
        }

        void run(Player player, int most) {
            Arrays.fill(all, 0);
            all[0] = 1;
            for (int hand = 0; hand < HANDS; hand++) {
                if (player.piece.firstOfHand(hand, 0) >= 0) {
                    tallyChain(player, hand, most);
                    join(most);
                }
            }
            upTo = most;
        }

        int sumTo(int most) {
            int sum = 0;
            for (int price = 0; price <= most && price < ROW; price++) {
                sum = capped(sum, all[price]);
            }
            return sum;
        }

        /** Neither is above WAYS_AT_MOST, so the sum of the two fits an int. */
        private static int capped(int a, int b) {
            return Math.min(WAYS_AT_MOST, a + b);
        }

        private void tallyChain(Player player, int hand, int most) {
            int last = player.piece.firstOfHand(hand, 0);
            begin(player, last);
            for (int i = last + 1; i < player.piece.count; i++) {
                if (player.piece.handOf(i) == hand) {
                    advance(player, last, i, most);
                    last = i;
                }
            }
            gather(player.countOf(last), most);
        }

        private void begin(Player player, int i) {
            clearRows(here, player.countOf(i));
            for (int k = 0; k < player.countOf(i); k++) {
                int price = player.priceOf(i, k);
                int at = k * ROW + price;
                if (player.piece.allows(i, k) && price < ROW && at >= 0 && at < here.length) {
                    here[at] = 1;
                }
            }
        }

        private static void clearRows(int[] rows, int states) {
            Arrays.fill(rows, 0, Math.max(0, Math.min(rows.length, states * ROW)), 0);
        }

        private void advance(Player player, int i, int next, int most) {
            clearRows(there, player.countOf(next));
            for (int k = 0; k < player.countOf(i); k++) {
                int cheapest = cheapestOf(k, most);
                int dearest = dearestOf(k, most);
                for (int l = 0; cheapest <= dearest && l < player.countOf(next); l++) {
                    int stepPrice = player.piece.allows(next, l) ? player.stepPrice(i, k, next, l) : NONE;
                    if (stepPrice != NONE) {
                        int more = stepPrice + player.priceOf(next, l);
                        carry(k * ROW, l * ROW + more, cheapest, Math.min(dearest, most - more));
                    }
                }
            }
            int[] spare = here;
            here = there;
            there = spare;
        }

        /** The least PRICE of which there is a row of STATES up to STATE k; above most, if there is none. */
        private int cheapestOf(int k, int most) {
            for (int price = 0; price <= most; price++) {
                int at = k * ROW + price;
                if (at >= 0 && at < here.length && here[at] != 0) {
                    return price;
                }
            }
            return most + 1;
        }

        /** The greatest such PRICE up to most; -1, if there is none. */
        private int dearestOf(int k, int most) {
            for (int price = most; price >= 0; price--) {
                int at = k * ROW + price;
                if (at >= 0 && at < here.length && here[at] != 0) {
                    return price;
                }
            }
            return -1;
        }

        /** Adds what stands here behind from to what stands there behind to, for these PRICES. */
        private void carry(int from, int to, int cheapest, int dearest) {
            if (from < 0 || to < 0 || cheapest < 0 || dearest >= here.length - from
                    || dearest >= there.length - to) {
                return;
            }
            for (int price = cheapest; price <= dearest; price++) {
                there[to + price] = capped(there[to + price], here[from + price]);
            }
        }

        private void gather(int states, int most) {
            Arrays.fill(ofChain, 0);
            for (int k = 0; k < states; k++) {
                for (int price = 0; price <= most && price < ROW; price++) {
                    int at = k * ROW + price;
                    if (at >= 0 && at < here.length) {
                        ofChain[price] = capped(ofChain[price], here[at]);
                    }
                }
            }
        }

        /** Every WAY of the CHAINS before goes with every one of this CHAIN. */
        private void join(int most) {
            Arrays.fill(joined, 0);
            for (int a = 0; a <= most && a < ROW; a++) {
                for (int b = 0; all[a] != 0 && a + b <= most && a + b < ROW; b++) {
                    long pairs = (long) all[a] * ofChain[b];
                    joined[a + b] = capped(joined[a + b], (int) Math.min(WAYS_AT_MOST, pairs));
                }
            }
            int[] spare = all;
            all = joined;
            joined = spare;
        }
    }
}
