import java.util.ArrayList;
import java.util.Arrays;
import java.util.List;
import java.util.Random;

/** Rows of calls drawn from fixed seeds, each answer held against a second, slow reading of the document. */
public final class ModelTest extends Asked {
    private static final long CAP = 1000000000L;

    private record Event(int hand, int time, int length, List<Integer> notes) { }

    private record State(int price, int first, int second) { }

    /** A row of STATES so far, for each EVENT of a CHAIN one. */
    private record Path(int price, List<Integer> numbers) { }

    /** The document read once more, nothing kept but what was given. */
    private static final class Model {
        final int kind;
        final int[] bounds = {10, 400, 30, 0, 127, 34, 55, 62, 69, 76};
        final List<Event> events = new ArrayList<>();
        final List<Integer> pins = new ArrayList<>();

        Model(int instrument) {
            kind = instrument < 0 ? 0 : instrument > 4 ? 4 : instrument;
        }

        boolean has(int i) {
            return 0 <= i && i < events.size();
        }

        int event(int hand, int time, int length, int p, int q, int r) {
            List<Integer> notes = new ArrayList<>(List.of(p));
            if (q != -1) {
                notes.add(q);
            }
            if (r != -1) {
                if (q == -1) {
                    return BAD;
                }
                notes.add(r);
            }
            int last = -1;
            for (int note : notes) {
                if (note <= last || note > 127) {
                    return BAD;
                }
                last = note;
            }
            int most = kind == 0 || kind == 1 ? 3 : kind == 4 ? 2 : 1;
            if (notes.size() > most || hand < 0 || hand > (kind == 0 ? 1 : 0) || time < 0 || time > 100000
                    || length < 1 || length > 1000) {
                return BAD;
            }
            List<Integer> chain = chain(hand);
            if (!chain.isEmpty()) {
                Event before = events.get(chain.get(chain.size() - 1));
                if (time <= before.time || (kind == 2 || kind == 3) && time < before.time + before.length) {
                    return NOT;
                }
            }
            if (!events.isEmpty() && time < events.get(events.size() - 1).time) {
                return NOT;
            }
            if (events.size() == 40) {
                return FULL;
            }
            events.add(new Event(hand, time, length, notes));
            pins.add(NONE);
            return events.size() - 1;
        }

        int drop() {
            if (events.isEmpty()) {
                return NONE;
            }
            events.remove(events.size() - 1);
            pins.remove(pins.size() - 1);
            return events.size();
        }

        int bound(int what, int v) {
            int[][] limits = {{0, 100}, {1, 2000}, {0, 200}, {0, 127}, {0, 127}, {0, 100}, {0, 127}, {0, 127},
                {0, 127}, {0, 127}};
            if (what < 0 || what > 9 || v < limits[what][0] || v > limits[what][1]) {
                return BAD;
            }
            int old = bounds[what];
            bounds[what] = v;
            return old;
        }

        int pin(int i, int number) {
            if (!has(i) || number < -1 || number > 99) {
                return BAD;
            }
            return pins.set(i, number == -1 ? NONE : number);
        }

        List<Integer> chain(int hand) {
            List<Integer> chain = new ArrayList<>();
            for (int i = 0; i < events.size(); i++) {
                if (events.get(i).hand == hand) {
                    chain.add(i);
                }
            }
            return chain;
        }

        int next(int i) {
            List<Integer> chain = chain(events.get(i).hand);
            int at = chain.indexOf(i);
            return at + 1 < chain.size() ? chain.get(at + 1) : -1;
        }

        List<State> statesOf(int i) {
            for (int note : events.get(i).notes) {
                if (note < bounds[3] || note > bounds[4]) {
                    return List.of();
                }
            }
            return switch (kind) {
                case 0 -> keyboard(events.get(i));
                case 1 -> strings(events.get(i));
                case 2 -> wind(i);
                case 3 -> slide(events.get(i));
                default -> sticks(i);
            };
        }

        List<State> keyboard(Event e) {
            List<State> found = new ArrayList<>();
            for (int bits = 0; bits < 32; bits++) {
                List<Integer> fingers = new ArrayList<>();
                for (int f = 1; f <= 5; f++) {
                    if ((bits & 1 << f - 1) != 0) {
                        fingers.add(e.hand == 1 ? fingers.size() : 0, f);
                    }
                }
                if (fingers.size() != e.notes.size()) {
                    continue;
                }
                // fingers.get(n) now lies on notes.get(n), for either HAND
                int price = 0;
                boolean can = true;
                for (int n = 0; n + 1 < fingers.size(); n++) {
                    int d = Math.abs(fingers.get(n) - fingers.get(n + 1));
                    int s = e.notes.get(n + 1) - e.notes.get(n);
                    int one = fingers.get(n) == 1 || fingers.get(n + 1) == 1 ? 1 : 0;
                    can = can && s <= 3 * d + 4 * one;
                    if (s > 2 * d + 2 * one) {
                        price += s - (2 * d + 2 * one);
                    }
                    if (s < d) {
                        price += d - s;
                    }
                }
                int top = fingers.size() - 1;
                int place = e.hand == 1 ? e.notes.get(0) - 2 * (fingers.get(0) - 1)
                        : e.notes.get(top) + 2 * (fingers.get(top) - 1);
                if (can) {
                    found.add(new State(price, bits, place));
                }
            }
            return found;
        }

        List<State> strings(Event e) {
            List<State> found = new ArrayList<>();
            for (int position = 0; position <= 11; position++) {
                for (int t = 0; t <= 3; t++) {
                    int price = 0;
                    boolean can = true;
                    for (int n = 0; n < e.notes.size(); n++) {
                        if (t + n > 3) {
                            can = false;
                            break;
                        }
                        int stop = e.notes.get(n) - bounds[6 + t + n];
                        can = can && (stop == 0 || stop >= position + 1 && stop <= position + 4);
                        price += stop == 0 ? 0 : stop == position + 4 ? 2 : 1;
                    }
                    if (can) {
                        found.add(new State(price, position, t));
                    }
                }
            }
            return found;
        }

        List<State> wind(int i) {
            List<State> found = new ArrayList<>();
            for (int j = 0; j <= i; j++) {
                int sum = 0;
                for (int m = j; m <= i; m++) {
                    sum += events.get(m).length;
                }
                if (sum <= bounds[1]) {
                    found.add(new State(0, j, 0));
                }
            }
            return found;
        }

        List<State> slide(Event e) {
            List<State> found = new ArrayList<>();
            List<Integer> partials = List.of(12, 19, 24, 28, 31, 34, 36, 38, 40);
            for (int place = 0; place <= 6; place++) {
                if (partials.contains(e.notes.get(0) + place - bounds[5])) {
                    found.add(new State(place == 6 ? 2 : place == 5 ? 1 : 0, place, 0));
                }
            }
            return found;
        }

        int played(int hand, int i) {
            List<Integer> notes = events.get(i).notes;
            return notes.size() == 1 ? notes.get(0) : notes.get(hand);
        }

        List<State> sticks(int i) {
            List<State> found = new ArrayList<>();
            if (events.get(i).notes.size() == 2) {
                found.add(new State(0, 2, -1));
                return found;
            }
            int own = events.get(i).notes.get(0);
            for (int hand = 0; hand <= 1; hand++) {
                for (int other = -1; other < i; other++) {
                    boolean can = true;
                    for (int m = other + 1; m < i; m++) {
                        can = can && events.get(m).notes.size() == 1;
                    }
                    int price = 0;
                    if (other >= 0) {
                        int pitch = played(1 - hand, other);
                        price = hand == 0 && own > pitch || hand == 1 && own < pitch ? 4 : 0;
                    }
                    if (can) {
                        found.add(new State(price, hand, other));
                    }
                }
            }
            return found;
        }

        int stepOf(int i, State a, int n, State b) {
            Event from = events.get(i);
            Event to = events.get(n);
            int gap = to.time - from.time;
            int move = bounds[0];
            switch (kind) {
                case 0: {
                    int far = Math.abs(a.second - b.second);
                    boolean slip = from.notes.size() == 1 && to.notes.size() == 1
                            && !from.notes.get(0).equals(to.notes.get(0)) && a.first == b.first;
                    return far * move > gap ? NONE : far + (slip ? 3 : 0);
                }
                case 1: {
                    int far = Math.abs(a.first - b.first);
                    return far * move > gap ? NONE : 2 * far + Math.abs(a.second - b.second);
                }
                case 2: {
                    if (a.first == b.first) {
                        return 0;
                    }
                    int rest = to.time - (from.time + from.length);
                    if (b.first != n || bounds[2] - rest >= from.length) {
                        return NONE;
                    }
                    return rest < bounds[2] ? 1 + 2 * (bounds[2] - rest) : 1;
                }
                case 3: {
                    int far = Math.abs(a.first - b.first);
                    return far * move > gap ? NONE : far;
                }
                default:
                    return stickStep(i, a, n, b);
            }
        }

        int stickStep(int i, State a, int n, State b) {
            int[] last = {i, i};
            if (a.first != 2) {
                last[1 - a.first] = a.second;
            }
            int price = 0;
            for (int hand = 0; hand <= 1; hand++) {
                boolean plays = b.first == 2 || b.first == hand;
                if (!plays) {
                    if (last[hand] != b.second) {
                        return NONE;
                    }
                    continue;
                }
                if (last[hand] >= 0) {
                    int far = Math.abs(played(hand, n) - played(hand, last[hand]));
                    if (far * bounds[0] > events.get(n).time - events.get(last[hand]).time) {
                        return NONE;
                    }
                    price += far;
                }
                if (a.first == hand && b.first == hand) {
                    price += 2;
                }
            }
            return price;
        }

        int step(int i, int k, int l) {
            if (!has(i) || next(i) < 0 || k < 0 || k >= statesOf(i).size() || l < 0
                    || l >= statesOf(next(i)).size()) {
                return BAD;
            }
            return stepOf(i, statesOf(i).get(k), next(i), statesOf(next(i)).get(l));
        }

        int state(int i, int k, int what) {
            if (!has(i) || k < 0 || k >= statesOf(i).size() || what < 0 || what > 2) {
                return BAD;
            }
            State s = statesOf(i).get(k);
            return what == 0 ? s.price : what == 1 ? s.first : s.second;
        }

        boolean free(int i, int k) {
            return pins.get(i) == NONE || pins.get(i) == k;
        }

        static boolean better(Path a, Path b) {
            if (b == null || a.price != b.price) {
                return b == null || a.price < b.price;
            }
            return Arrays.compare(a.numbers.stream().mapToInt(n -> n).toArray(),
                    b.numbers.stream().mapToInt(n -> n).toArray()) < 0;
        }

        /** Forwards: for each STATE of the m-th EVENT of a CHAIN the best row up to it, null if there is none. */
        List<Path[]> paths(int hand) {
            List<Path[]> all = new ArrayList<>();
            List<Integer> chain = chain(hand);
            for (int m = 0; m < chain.size(); m++) {
                int i = chain.get(m);
                List<State> states = statesOf(i);
                List<State> before = m == 0 ? null : statesOf(chain.get(m - 1));
                Path[] best = new Path[states.size()];
                for (int k = 0; k < best.length; k++) {
                    if (!free(i, k)) {
                        continue;
                    }
                    if (m == 0) {
                        best[k] = new Path(states.get(k).price, List.of(k));
                        continue;
                    }
                    for (int j = 0; j < before.size(); j++) {
                        Path p = all.get(m - 1)[j];
                        int step = p == null ? NONE : stepOf(chain.get(m - 1), before.get(j), i, states.get(k));
                        if (step == NONE) {
                            continue;
                        }
                        List<Integer> numbers = new ArrayList<>(p.numbers);
                        numbers.add(k);
                        Path q = new Path(p.price + step + states.get(k).price, numbers);
                        if (better(q, best[k])) {
                            best[k] = q;
                        }
                    }
                }
                all.add(best);
            }
            return all;
        }

        /** THE WAY of a CHAIN, null if there is none. */
        Path best(int hand) {
            List<Path[]> all = paths(hand);
            if (all.isEmpty()) {
                return new Path(0, List.of());
            }
            Path best = null;
            for (Path p : all.get(all.size() - 1)) {
                if (p != null && better(p, best)) {
                    best = p;
                }
            }
            return best;
        }

        int price() {
            Path left = best(0);
            Path right = best(1);
            return left == null || right == null ? NONE : left.price + right.price;
        }

        int way(int i) {
            if (!has(i)) {
                return BAD;
            }
            if (price() == NONE) {
                return NONE;
            }
            int hand = events.get(i).hand;
            return best(hand).numbers.get(chain(hand).indexOf(i));
        }

        int stuck() {
            int least = Integer.MAX_VALUE;
            for (int hand = 0; hand <= 1; hand++) {
                List<Path[]> all = paths(hand);
                for (int m = 0; m < all.size(); m++) {
                    if (Arrays.stream(all.get(m)).allMatch(p -> p == null)) {
                        least = Math.min(least, chain(hand).get(m));
                    }
                }
            }
            return least == Integer.MAX_VALUE ? NONE : least;
        }

        /** Backwards: how many rows of a CHAIN there are of each PRICE up to most. */
        long[] counts(int hand, int most) {
            List<Integer> chain = chain(hand);
            long[] sum = new long[most + 1];
            if (chain.isEmpty()) {
                sum[0] = 1;
                return sum;
            }
            long[][] onward = null;
            for (int m = chain.size() - 1; m >= 0; m--) {
                int i = chain.get(m);
                List<State> states = statesOf(i);
                List<State> later = onward == null ? null : statesOf(chain.get(m + 1));
                long[][] rows = new long[states.size()][most + 1];
                for (int k = 0; k < rows.length; k++) {
                    int own = states.get(k).price;
                    if (!free(i, k) || own > most) {
                        continue;
                    }
                    if (onward == null) {
                        rows[k][own] = 1;
                        continue;
                    }
                    for (int l = 0; l < onward.length; l++) {
                        int step = stepOf(i, states.get(k), chain.get(m + 1), later.get(l));
                        for (int p = 0; step != NONE && p + step + own <= most; p++) {
                            rows[k][p + step + own] = Math.min(2 * CAP, rows[k][p + step + own] + onward[l][p]);
                        }
                    }
                }
                onward = rows;
            }
            for (long[] row : onward) {
                for (int p = 0; p <= most; p++) {
                    sum[p] = Math.min(2 * CAP, sum[p] + row[p]);
                }
            }
            return sum;
        }

        int ways(int most) {
            if (most < 0 || most > 300) {
                return BAD;
            }
            long[] left = counts(0, most);
            long[] right = counts(1, most);
            long sum = 0;
            for (int a = 0; a <= most; a++) {
                for (int b = 0; a + b <= most; b++) {
                    sum = Math.min(2 * CAP, sum + left[a] * right[b]);
                }
            }
            return (int) Math.min(CAP, sum);
        }

        int told(int what) {
            return switch (what) {
                case 0 -> events.size();
                case 1 -> chain(0).size();
                case 2 -> chain(1).size();
                case 3 -> kind;
                case 4 -> (int) pins.stream().filter(p -> p != NONE).count();
                default -> BAD;
            };
        }

        int about(int i, int what) {
            if (!has(i)) {
                return BAD;
            }
            Event e = events.get(i);
            return switch (what) {
                case 0 -> e.hand;
                case 1 -> e.time;
                case 2 -> e.length;
                case 3 -> e.notes.size();
                case 4, 5, 6 -> what - 4 < e.notes.size() ? e.notes.get(what - 4) : -1;
                case 7 -> pins.get(i);
                default -> BAD;
            };
        }

        /** Every WAY written out: its number, and THE WAY, by the words of the document alone. */
        void writeOut(int i, int[] row, int price, Brute out) {
            if (i == events.size()) {
                for (int most = price; most <= 300; most++) {
                    out.upTo[most]++;
                }
                if (out.best == null || price < out.price) {
                    out.price = price;
                    out.best = row.clone();
                }
                return;
            }
            List<State> states = statesOf(i);
            List<Integer> chain = chain(events.get(i).hand);
            int at = chain.indexOf(i);
            for (int k = 0; k < states.size(); k++) {
                int step = 0;
                if (at > 0) {
                    int before = chain.get(at - 1);
                    step = stepOf(before, statesOf(before).get(row[before]), i, states.get(k));
                }
                if (free(i, k) && step != NONE) {
                    row[i] = k;
                    writeOut(i + 1, row, price + step + states.get(k).price, out);
                }
            }
        }
    }

    private static final class Brute {
        final int[] upTo = new int[301];
        int price = NONE;
        int[] best = null;
    }

    /** For each instrument: how often a WAY was asked for, and how often there was one. */
    private static final int[] sought = new int[5];
    private static final int[] found = new int[5];

    /** One row of calls on one object. */
    private static final class Run {
        final Random r;
        final long seed;
        final PlaySpans x;
        final Model m;
        final int gap;
        final int most;
        int time = 0;
        int pitch;

        Run(long seed) {
            this.seed = seed;
            r = new Random(seed);
            int kind = r.nextInt(8) == 0 ? r.nextInt(11) - 3 : (int) (seed % 5);
            x = new PlaySpans(kind);
            m = new Model(kind);
            gap = 5 + r.nextInt(r.nextBoolean() ? 60 : 400);
            most = r.nextInt(4) == 0 ? 42 : 3 + r.nextInt(9);
            pitch = m.kind == 3 ? 46 + r.nextInt(28) : 50 + r.nextInt(30);
        }

        String call(String name, int... args) {
            return "seed " + seed + ", instrument " + m.kind + ", events " + m.events.size() + ": " + name
                    + Arrays.toString(args);
        }

        int odd(int from, int to) {
            int dice = r.nextInt(40);
            return dice == 0 ? from - 1 : dice == 1 ? to + 1 : dice == 2 ? r.nextInt() : from + r.nextInt(to - from + 1);
        }

        void event() {
            int hand = m.kind == 0 ? r.nextInt(2) : 0;
            int length = 1 + r.nextInt(Math.max(1, gap));
            int t = time + r.nextInt(gap);
            if ((m.kind == 2 || m.kind == 3) && !m.events.isEmpty() && r.nextInt(8) != 0) {
                Event last = m.events.get(m.events.size() - 1);
                t = last.time + last.length + (r.nextBoolean() ? 0 : r.nextInt(gap));
            }
            pitch = Math.max(0, Math.min(127, pitch + r.nextInt(9) - 4));
            int p = r.nextInt(3) == 0 && m.kind == 1 ? m.bounds[6 + r.nextInt(4)] : pitch;
            int notes = r.nextInt(12) == 0 ? 3 : m.kind == 2 || m.kind == 3 ? 1 : 1 + r.nextInt(3);
            int apart = m.kind == 1 ? 7 : 4;
            int q = notes > 1 ? p + r.nextInt(4) + apart - 2 : -1;
            int s = notes > 2 ? q + r.nextInt(4) + apart - 2 : -1;
            if (r.nextInt(30) == 0) {
                hand = odd(0, 1);
                t = odd(0, 100000);
                length = odd(1, 1000);
                s = odd(-1, 127);
            }
            int got = x.event(hand, t, length, p, q, s);
            due(call("event", hand, t, length, p, q, s), got, m.event(hand, t, length, p, q, s));
            if (!m.events.isEmpty()) {
                time = m.events.get(m.events.size() - 1).time;
            }
        }

        void bound() {
            int what = r.nextInt(30) == 0 ? odd(0, 9) : r.nextInt(10);
            int v = switch (what) {
                case 0 -> r.nextInt(3) == 0 ? odd(0, 100) : r.nextInt(12);
                case 1 -> r.nextInt(3) == 0 ? odd(1, 2000) : gap + r.nextInt(5 * gap);
                case 2 -> r.nextInt(3) == 0 ? odd(0, 200) : r.nextInt(gap);
                case 3 -> r.nextInt(30) == 0 ? odd(0, 127) : r.nextInt(45);
                case 4 -> r.nextInt(30) == 0 ? odd(0, 127) : 85 + r.nextInt(43);
                case 5 -> r.nextInt(8) == 0 ? odd(0, 100) : 30 + r.nextInt(8);
                default -> r.nextInt(8) == 0 ? odd(0, 127) : 50 + 7 * (what - 6) + r.nextInt(11);
            };
            due(call("bound", what, v), x.bound(what, v), m.bound(what, v));
        }

        int anyEvent() {
            int n = m.events.size();
            return n == 0 || r.nextInt(25) == 0 ? odd(0, 40) : r.nextInt(n);
        }

        int anyState(int i) {
            int n = m.has(i) ? m.statesOf(i).size() : 0;
            return n == 0 || r.nextInt(25) == 0 ? odd(0, 99) : r.nextInt(n);
        }

        void pin() {
            int i = anyEvent();
            int number = r.nextInt(3) == 0 ? -1 : r.nextInt(12) == 0 ? odd(-1, 99) : anyState(i);
            due(call("pin", i, number), x.pin(i, number), m.pin(i, number));
        }

        void small() {
            int i = anyEvent();
            int k = anyState(i);
            int l = m.has(i) && m.next(i) >= 0 ? anyState(m.next(i)) : anyState(i);
            int what = odd(0, 2);
            due(call("states", i), x.states(i), m.has(i) ? m.statesOf(i).size() : BAD);
            due(call("state", i, k, what), x.state(i, k, what), m.state(i, k, what));
            due(call("step", i, k, l), x.step(i, k, l), m.step(i, k, l));
            int t = odd(0, 4);
            due(call("told", t), x.told(t), m.told(t));
            int a = odd(0, 7);
            due(call("about", i, a), x.about(i, a), m.about(i, a));
        }

        void large() {
            int price = m.price();
            sought[m.kind]++;
            found[m.kind] += price == NONE ? 0 : 1;
            switch (r.nextInt(4)) {
                case 0 -> due(call("price"), x.price(), price);
                case 1 -> due(call("stuck"), x.stuck(), m.stuck());
                case 2 -> {
                    int i = anyEvent();
                    due(call("way", i), x.way(i), m.way(i));
                }
                default -> {
                    int most = r.nextInt(3) == 0 || price == NONE ? odd(0, 300) : price + r.nextInt(20) - 3;
                    due(call("ways", most), x.ways(most), m.ways(most));
                }
            }
        }

        void everyStep() {
            for (int i = 0; i < m.events.size(); i++) {
                int n = m.next(i);
                List<State> here = m.statesOf(i);
                due(call("states", i), x.states(i), here.size());
                for (int k = 0; k < here.size(); k++) {
                    due(call("state", i, k, 0), x.state(i, k, 0), here.get(k).price);
                    due(call("state", i, k, 1), x.state(i, k, 1), here.get(k).first);
                    due(call("state", i, k, 2), x.state(i, k, 2), here.get(k).second);
                    List<State> there = n < 0 ? List.of() : m.statesOf(n);
                    for (int l = 0; l < there.size(); l++) {
                        due(call("step", i, k, l), x.step(i, k, l), m.stepOf(i, here.get(k), n, there.get(l)));
                    }
                }
            }
        }

        void everyWay() {
            double size = 1;
            for (int i = 0; i < m.events.size(); i++) {
                size *= m.kind == 4 ? 2 : Math.max(1, m.statesOf(i).size());
            }
            if (size > 3000) {
                return;
            }
            Brute all = new Brute();
            m.writeOut(0, new int[m.events.size()], 0, all);
            due(call("price, written out"), x.price(), all.price);
            for (int most = 0; most <= 300; most += 1 + r.nextInt(20)) {
                due(call("ways, written out", most), x.ways(most), all.upTo[most]);
            }
            for (int i = 0; i < m.events.size(); i++) {
                due(call("way, written out", i), x.way(i), all.best == null ? NONE : all.best[i]);
            }
        }

        void go(int calls) {
            for (int n = 0; n < calls; n++) {
                int dice = r.nextInt(100);
                if (dice < 4 || m.events.size() > most && dice < 30) {
                    due(call("drop"), x.drop(), m.drop());
                } else if (dice < 35) {
                    event();
                } else if (dice < 45) {
                    bound();
                } else if (dice < 50) {
                    pin();
                } else if (dice < 75) {
                    small();
                } else {
                    large();
                }
            }
            everyStep();
            everyWay();
        }
    }

    /** Long rows that can be played: where the numbers grow largest and STATES are most. */
    private static void full(int kind, long seed) {
        PlaySpans x = new PlaySpans(kind);
        Model m = new Model(kind);
        Random r = new Random(seed);
        for (int what = 6; what < 10 && seed % 2 == 0; what++) {
            due("open strings alike", x.bound(what, 60), m.bound(what, 60));
        }
        due("lung", x.bound(1, 2000), m.bound(1, 2000));
        for (int i = 0; i < 40; i++) {
            int p = (kind == 3 ? 65 : 60) + r.nextInt(3);
            int q = kind == 4 && r.nextInt(15) == 0 ? p + 4 : -1;
            int hand = kind == 0 ? r.nextInt(2) : 0;
            due("full: event", x.event(hand, 60 * i, 20 + i % 3, p, q, -1), m.event(hand, 60 * i, 20 + i % 3, p, q, -1));
        }
        String name = "full " + kind + ", seed " + seed + ": ";
        due(name + "price", x.price(), m.price());
        due(name + "stuck", x.stuck(), m.stuck());
        for (int most : new int[] {20, 60, 300, 0, 100}) {
            due(name + "ways(" + most + ")", x.ways(most), m.ways(most));
        }
        for (int i = 0; i < 40; i++) {
            due(name + "states", x.states(i), m.statesOf(i).size());
            due(name + "way(" + i + ")", x.way(i), m.way(i));
        }
        due(name + "one more", x.event(0, 2400, 5, 60, -1, -1), FULL);
    }

    public static void main(String[] args) {
        int runs = args.length > 0 ? Integer.parseInt(args[0]) : 1500;
        for (long seed = 0; seed < runs; seed++) {
            new Run(seed).go(120);
        }
        for (int kind = 0; kind < 5; kind++) {
            for (long seed = 0; seed < 4; seed++) {
                full(kind, seed);
            }
        }
        System.out.println("by instrument a way was sought " + Arrays.toString(sought) + " times, and found "
                + Arrays.toString(found) + " times");
        end();
    }
}
