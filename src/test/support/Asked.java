/** What the tests share: holding answers against those that are due, and objects with some EVENTS. */
abstract class Asked {
    static final int BAD = -1, NONE = -2, NOT = -3, FULL = -4;
    static final int KEYBOARD = 0, STRINGS = 1, WIND = 2, SLIDE = 3, STICKS = 4, KINDS = 5;
    static final int LEFT = 0, RIGHT = 1;
    /** Numbers that no call takes for an EVENT, a STATE, a BOUND or a what, and whose sums and products wrap around. */
    static final int[] FAR_OUT = {Integer.MIN_VALUE, Integer.MIN_VALUE + 1, -100000, -3, -2, 100001, 1 << 30,
        Integer.MAX_VALUE - 1, Integer.MAX_VALUE};

    private static final int SHOWN_AT_MOST = 60;
    private static long asked = 0;
    private static long wrong = 0;
    private static String sentence = "";

    /** What is asked from here on stands for these words of the document. */
    static void sentence(String words) {
        sentence = words;
    }

    static void due(String call, int got, int want) {
        asked++;
        if (got != want) {
            wrong++;
            if (wrong <= SHOWN_AT_MOST) {
                String why = sentence.isEmpty() ? "" : "  [" + sentence + "]";
                System.out.println(call + " answered " + got + ", due is " + want + why);
            }
        }
    }

    static void end() {
        System.out.println(asked + " answers looked at, " + wrong + " not as due");
        if (wrong != 0) {
            System.exit(1);
        }
    }

    /** A new object with EVENTS, each as HAND, TIME, LENGTH and its NOTES. */
    static PlaySpans on(int instrument, int[]... events) {
        PlaySpans x = new PlaySpans(instrument);
        for (int i = 0; i < events.length; i++) {
            int[] e = events[i];
            int q = e.length > 4 ? e[4] : -1;
            int r = e.length > 5 ? e[5] : -1;
            due("event " + i, x.event(e[0], e[1], e[2], e[3], q, r), i);
        }
        return x;
    }

    static int[] ev(int... numbers) {
        return numbers;
    }

    static void dueState(PlaySpans x, int i, int k, int price, int first, int second) {
        due("state(" + i + ", " + k + ", 0)", x.state(i, k, 0), price);
        due("state(" + i + ", " + k + ", 1)", x.state(i, k, 1), first);
        due("state(" + i + ", " + k + ", 2)", x.state(i, k, 2), second);
    }

    static void dueStep(PlaySpans x, int i, int k, int l, int price) {
        due("step(" + i + ", " + k + ", " + l + ")", x.step(i, k, l), price);
    }

    static void dueStates(PlaySpans x, int i, int count) {
        due("states(" + i + ")", x.states(i), count);
    }

    static void dueBound(PlaySpans x, int what, int v, int was) {
        due("bound(" + what + ", " + v + ")", x.bound(what, v), was);
    }

    static void duePin(PlaySpans x, int i, int number, int was) {
        due("pin(" + i + ", " + number + ")", x.pin(i, number), was);
    }

    static void dueWays(PlaySpans x, int most, int count) {
        due("ways(" + most + ")", x.ways(most), count);
    }

    /** THE WAY, its PRICE, and that nothing is stuck. */
    static void dueWay(PlaySpans x, int price, int... numbers) {
        due("price()", x.price(), price);
        due("stuck()", x.stuck(), NONE);
        for (int i = 0; i < numbers.length; i++) {
            due("way(" + i + ")", x.way(i), numbers[i]);
        }
    }

    /** No WAY: stuck at an EVENT. */
    static void dueNoWay(PlaySpans x, int stuckAt) {
        due("price()", x.price(), NONE);
        due("stuck()", x.stuck(), stuckAt);
        due("ways(300)", x.ways(300), 0);
        for (int i = 0; i < x.told(0); i++) {
            due("way(" + i + ")", x.way(i), NONE);
        }
    }
}
