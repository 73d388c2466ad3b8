/** Each promise of the document: ordinary inputs, the edges it names, and wrong inputs; the answers are worked out by hand. */
public final class PromiseTest extends Asked {
    private static final int[] WRONG = {Integer.MIN_VALUE, -1000, -2, 1000, Integer.MAX_VALUE};

    public static void main(String[] args) {
        constants();
        promise1();
        promise2();
        promise2Fits();
        promise2Full();
        promise3();
        promise4();
        promise5();
        keyboardStates();
        keyboardSteps();
        strings();
        wind();
        slide();
        sticksStates();
        sticksSteps();
        wrongNumbers();
        compass();
        promise9();
        promise10();
        promise11();
        promise12();
        promise12Cap();
        promise13();
        promise14();
        refusedChangesNothing();
        end();
    }

    private static void constants() {
        due("BAD", PlaySpans.BAD, -1);
        due("NONE", PlaySpans.NONE, -2);
        due("NOT", PlaySpans.NOT, -3);
        due("FULL", PlaySpans.FULL, -4);
    }

    private static void promise1() {
        int[] given = {0, 1, 2, 3, 4, -1, 5, Integer.MIN_VALUE, Integer.MAX_VALUE};
        int[] taken = {0, 1, 2, 3, 4, 0, 4, 0, 4};
        int[] atFirst = {10, 400, 30, 0, 127, 34, 55, 62, 69, 76};
        for (int n = 0; n < given.length; n++) {
            PlaySpans x = new PlaySpans(given[n]);
            due("instrument " + given[n], x.told(3), taken[n]);
            due("new: events", x.told(0), 0);
            due("new: left", x.told(1), 0);
            due("new: right", x.told(2), 0);
            due("new: pinned", x.told(4), 0);
            due("new: price", x.price(), 0);
            due("new: stuck", x.stuck(), NONE);
            due("new: ways(0)", x.ways(0), 1);
            due("new: ways(300)", x.ways(300), 1);
            for (int what = 0; what < 10; what++) {
                due("new: bound " + what, x.bound(what, 50), atFirst[what]);
            }
        }
    }

    private static void promise2() {
        PlaySpans x = new PlaySpans(0);
        for (int n : WRONG) {
            due("hand " + n, x.event(n, 0, 1, 60, -1, -1), BAD);
            due("length " + n, x.event(0, 0, n == 1000 ? 1001 : n, 60, -1, -1), BAD);
            due("p " + n, x.event(0, 0, 1, n, -1, -1), BAD);
            due("q " + n, x.event(0, 0, 1, 60, n, -1), BAD);
            due("r " + n, x.event(0, 0, 1, 60, 61, n), BAD);
        }
        due("hand 2", x.event(2, 0, 1, 60, -1, -1), BAD);
        due("hand -1", x.event(-1, 0, 1, 60, -1, -1), BAD);
        due("time -1", x.event(0, -1, 1, 60, -1, -1), BAD);
        due("time 100001", x.event(0, 100001, 1, 60, -1, -1), BAD);
        due("length 0", x.event(0, 0, 0, 60, -1, -1), BAD);
        due("p -1", x.event(0, 0, 1, -1, -1, -1), BAD);
        due("p 128", x.event(0, 0, 1, 128, -1, -1), BAD);
        due("q 128", x.event(0, 0, 1, 60, 128, -1), BAD);
        due("r 128", x.event(0, 0, 1, 60, 64, 128), BAD);
        due("q as p", x.event(0, 0, 1, 60, 60, -1), BAD);
        due("q below p", x.event(0, 0, 1, 60, 59, -1), BAD);
        due("r as q", x.event(0, 0, 1, 60, 64, 64), BAD);
        due("r below q", x.event(0, 0, 1, 60, 64, 62), BAD);
        due("r without q", x.event(0, 0, 1, 60, -1, 64), BAD);
        due("nothing came", x.told(0), 0);
        due("edges below", x.event(0, 0, 1, 0, 1, 2), 0);
        due("edges above", x.event(1, 100000, 1000, 125, 126, 127), 1);
        int[] most = {3, 3, 1, 1, 2};
        for (int kind = 0; kind < 5; kind++) {
            for (int notes = 1; notes <= 3; notes++) {
                int q = notes > 1 ? 64 : -1;
                int r = notes > 2 ? 67 : -1;
                int got = new PlaySpans(kind).event(0, 0, 1, 60, q, r);
                due("notes " + notes + " on " + kind, got, notes <= most[kind] ? 0 : BAD);
            }
            due("the lowest pitch on " + kind, new PlaySpans(kind).event(0, 0, 1, 0, -1, -1), 0);
            due("the highest pitch on " + kind, new PlaySpans(kind).event(0, 0, 1, 127, -1, -1), 0);
            due("right on " + kind, new PlaySpans(kind).event(1, 0, 1, 60, -1, -1), kind == 0 ? 0 : BAD);
        }
    }

    private static void promise2Fits() {
        PlaySpans x = on(0, ev(1, 50, 10, 60));
        due("same time, same hand", x.event(1, 50, 10, 62, -1, -1), NOT);
        due("earlier, same hand", x.event(1, 49, 10, 62, -1, -1), NOT);
        due("earlier, other hand", x.event(0, 49, 10, 40, -1, -1), NOT);
        due("same time, other hand", x.event(0, 50, 10, 40, -1, -1), 1);
        due("next, while the one before sounds", x.event(1, 51, 10, 62, -1, -1), 2);
        due("other hand, below the last event", x.event(0, 50, 10, 41, -1, -1), NOT);
        due("BAD ahead of NOT", x.event(1, 50, 0, 62, -1, -1), BAD);
        for (int kind = 0; kind < 5; kind++) {
            PlaySpans y = on(kind, ev(0, 10, 20, 60));
            boolean oneAtOnce = kind == 2 || kind == 3;
            due("same time on " + kind, y.event(0, 10, 5, 60, -1, -1), NOT);
            due("before its end on " + kind, y.event(0, 29, 1, 60, -1, -1), oneAtOnce ? NOT : 1);
            due("at its end on " + kind, y.event(0, 30, 1, 60, -1, -1), oneAtOnce ? 1 : 2);
        }
    }

    private static void promise2Full() {
        for (int kind = 0; kind < 5; kind++) {
            PlaySpans x = new PlaySpans(kind);
            for (int i = 0; i < 40; i++) {
                due("event of 40", x.event(0, 10 * i, 10, 60, -1, -1), i);
            }
            due("one too many", x.event(0, 400, 10, 60, -1, -1), FULL);
            due("NOT ahead of FULL", x.event(0, 390, 10, 60, -1, -1), NOT);
            due("BAD ahead of FULL", x.event(0, 400, 10, 128, -1, -1), BAD);
            due("40 stay", x.told(0), 40);
            due("drop of 40", x.drop(), 39);
            due("room again", x.event(0, 400, 10, 60, -1, -1), 39);
        }
    }

    private static void promise3() {
        PlaySpans x = new PlaySpans(0);
        due("drop of none", x.drop(), NONE);
        x = on(0, ev(1, 0, 5, 60), ev(0, 0, 5, 40), ev(1, 9, 5, 62));
        due("pin the last", x.pin(2, 4), NONE);
        due("drop a pinned one", x.drop(), 2);
        due("pinned after drop", x.told(4), 0);
        due("about a dropped one", x.about(2, 0), BAD);
        due("pin a dropped one", x.pin(2, 0), BAD);
        due("an earlier time fits again", x.event(1, 5, 5, 64, -1, -1), 2);
        due("not pinned anew", x.about(2, 7), NONE);
        due("the new pitch", x.about(2, 4), 64);
        due("drop", x.drop(), 2);
        due("drop", x.drop(), 1);
        due("drop", x.drop(), 0);
        due("drop of none left", x.drop(), NONE);
        due("price of none", x.price(), 0);
    }

    private static void promise4() {
        int[] from = {0, 1, 0, 0, 0, 0, 0, 0, 0, 0};
        int[] to = {100, 2000, 200, 127, 127, 100, 127, 127, 127, 127};
        int[] atFirst = {10, 400, 30, 0, 127, 34, 55, 62, 69, 76};
        PlaySpans x = new PlaySpans(3);
        for (int what = 0; what < 10; what++) {
            due("below", x.bound(what, from[what] - 1), BAD);
            due("above", x.bound(what, to[what] + 1), BAD);
            due("far below", x.bound(what, Integer.MIN_VALUE), BAD);
            due("far above", x.bound(what, Integer.MAX_VALUE), BAD);
            due("to the least", x.bound(what, from[what]), atFirst[what]);
            due("to the most", x.bound(what, to[what]), from[what]);
            due("to a middle one", x.bound(what, 77), to[what]);
            due("to the same", x.bound(what, 77), 77);
        }
        for (int what : WRONG) {
            due("no such bound", x.bound(what, 50), BAD);
        }
        due("no bound -1", x.bound(-1, 50), BAD);
        due("no bound 10", x.bound(10, 50), BAD);
    }

    private static void promise5() {
        PlaySpans x = on(0, ev(1, 0, 5, 60), ev(1, 100, 5, 62));
        due("free price", x.price(), 0);
        due("pin", x.pin(1, 4), NONE);
        due("pinned way", x.way(1), 4);
        due("way to the pinned one", x.way(0), 3);
        due("pinned price", x.price(), 0);
        due("pin anew", x.pin(1, 0), 4);
        due("anew: the same finger would cost 2 and 3", x.price(), 4);
        due("anew: so the next finger", x.way(0), 1);
        due("pin outside the states", x.pin(1, 99), 0);
        due("no way", x.price(), NONE);
        due("stuck there", x.stuck(), 1);
        due("no ways", x.ways(300), 0);
        due("unpin", x.pin(1, -1), 99);
        due("unpin again", x.pin(1, -1), NONE);
        due("free again", x.price(), 0);
        due("state -2", x.pin(1, -2), BAD);
        due("state 100", x.pin(1, 100), BAD);
        for (int n : WRONG) {
            due("pin of event " + n, x.pin(n, 0), BAD);
            due("pin to state " + n, x.pin(0, n), BAD);
        }
        due("event 2", x.pin(2, 0), BAD);
        due("event -1", x.pin(-1, 0), BAD);
        due("none pinned", x.told(4), 0);
    }

    private static void keyboardStates() {
        PlaySpans x = on(0, ev(1, 0, 5, 1), ev(0, 0, 5, 48), ev(1, 10, 5, 60, 67), ev(0, 10, 5, 60, 68),
                ev(1, 20, 5, 60, 61), ev(0, 20, 5, 60, 64, 67), ev(1, 30, 5, 60, 64, 67), ev(0, 30, 5, 20, 60));
        due("one note", x.states(0), 5);
        for (int f = 1; f <= 5; f++) {
            dueState(x, 0, f - 1, 0, 1 << f - 1, 1 - 2 * (f - 1));
            dueState(x, 1, f - 1, 0, 1 << f - 1, 48 + 2 * (f - 1));
        }
        due("a seventh", x.states(2), 5);
        dueState(x, 2, 0, 3, 3, 60);
        dueState(x, 2, 1, 1, 5, 60);
        dueState(x, 2, 2, 0, 9, 60);
        dueState(x, 2, 3, 0, 17, 60);
        dueState(x, 2, 4, 1, 18, 58);
        due("an eighth, left", x.states(3), 4);
        dueState(x, 3, 0, 2, 5, 68);
        dueState(x, 3, 3, 2, 18, 70);
        due("a semitone", x.states(4), 10);
        dueState(x, 4, 0, 0, 3, 60);
        dueState(x, 4, 6, 3, 17, 60);
        dueState(x, 4, 9, 0, 24, 54);
        due("a chord, left", x.state(5, 0, 1), 11);
        dueState(x, 5, 0, 0, 11, 67);
        due("a chord, right", x.states(6), 7);
        dueState(x, 6, 0, 1, 7, 60);
        due("too wide", x.states(7), 0);
    }

    private static void keyboardSteps() {
        PlaySpans x = on(0, ev(1, 0, 5, 60), ev(0, 20, 5, 40), ev(1, 40, 5, 64), ev(1, 80, 5, 64),
                ev(1, 120, 5, 64, 67), ev(1, 159, 5, 70, 73));
        due("same finger", x.step(0, 0, 0), 7);
        due("its third", x.step(0, 0, 2), 0);
        due("just in time", x.step(0, 0, 4), 4);
        due("too late", x.step(0, 1, 0), NONE);
        due("same pitch, same finger", x.step(2, 1, 1), 0);
        due("same pitch, next finger", x.step(2, 1, 2), 2);
        due("to two notes", x.step(3, 0, 0), 0);
        due("to two notes, away", x.step(3, 1, 0), 2);
        due("39 is too short for 4", x.step(4, 0, 2), NONE);
        due("the move slower", x.bound(0, 9), 10);
        due("39 will do", x.step(4, 0, 2), 4);
        due("no next of its chain", x.step(1, 0, 0), BAD);
        due("no next", x.step(5, 0, 0), BAD);
    }

    private static void strings() {
        PlaySpans x = on(1, ev(0, 0, 5, 59), ev(0, 30, 5, 62), ev(0, 60, 5, 55, 64), ev(0, 90, 5, 76, 80),
                ev(0, 120, 5, 91), ev(0, 150, 5, 92), ev(0, 180, 5, 62, 69, 77));
        due("one stopped note", x.states(0), 4);
        dueState(x, 0, 0, 2, 0, 0);
        dueState(x, 0, 1, 1, 1, 0);
        dueState(x, 0, 3, 1, 3, 0);
        due("open or stopped", x.states(1), 16);
        dueState(x, 1, 2, 0, 2, 1);
        dueState(x, 1, 3, 2, 3, 0);
        dueState(x, 1, 4, 0, 3, 1);
        dueState(x, 1, 9, 1, 6, 0);
        due("open below, stopped above", x.states(2), 2);
        dueState(x, 2, 0, 1, 0, 0);
        dueState(x, 2, 1, 1, 1, 0);
        due("two stopped notes", x.states(3), 2);
        dueState(x, 3, 0, 3, 3, 2);
        dueState(x, 3, 1, 3, 10, 1);
        due("the highest", x.states(4), 1);
        dueState(x, 4, 0, 2, 11, 3);
        due("beyond", x.states(5), 0);
        due("three strings", x.states(6), 4);
        dueState(x, 6, 0, 1, 0, 1);
        dueState(x, 6, 1, 4, 4, 0);
        dueState(x, 6, 3, 3, 6, 0);
        due("below all strings", on(1, ev(0, 0, 5, 10)).states(0), 0);
        due("the second would lie beyond the last string", on(1, ev(0, 0, 5, 78, 79)).states(0), 0);
        due("by a string", x.step(0, 0, 0), 1);
        due("by three positions and a string", x.step(0, 0, 4), 7);
        due("by three positions", x.step(0, 0, 3), 6);
        due("too far", x.step(0, 0, 5), NONE);
        due("an open string lower", x.bound(7, 61), 62);
        due("no more open", x.states(1), 5);
        due("each on its string", x.states(6), 4);
        dueState(x, 6, 0, 2, 0, 1);
    }

    private static void wind() {
        PlaySpans x = on(2, ev(0, 0, 100, 60), ev(0, 100, 100, 62), ev(0, 250, 150, 64), ev(0, 430, 30, 60),
                ev(0, 460, 31, 60), ev(0, 491, 10, 60));
        due("first", x.states(0), 1);
        due("second", x.states(1), 2);
        due("third", x.states(2), 3);
        dueState(x, 2, 0, 0, 0, 0);
        dueState(x, 2, 2, 0, 2, 0);
        due("lung as long", x.bound(1, 350), 400);
        due("lung as long: all", x.states(2), 3);
        due("lung shorter", x.bound(1, 349), 350);
        due("lung shorter: two", x.states(2), 2);
        dueState(x, 2, 0, 0, 1, 0);
        due("lung for none", x.bound(1, 149), 349);
        due("no state", x.states(2), 0);
        due("lung back", x.bound(1, 400), 149);
        due("same breath", x.step(0, 0, 0), 0);
        due("a breath without a rest", x.step(0, 0, 1), 61);
        due("a breath in a rest", x.step(1, 0, 2), 1);
        due("a breath in a rest, from j 1", x.step(1, 1, 2), 1);
        due("another j", x.step(1, 0, 1), NONE);
        due("a rest as long as the breath", x.step(2, 0, 3), 1);
        due("a note no longer than the lack", x.step(3, 0, 3), NONE);
        due("a note just longer", x.step(4, 0, 4), 61);
        due("a short breath", x.bound(2, 29), 30);
        due("now longer than the lack", x.step(3, 0, 3), 59);
        due("no breath", x.bound(2, 0), 29);
        due("for 1", x.step(3, 0, 3), 1);
        due("price", x.price(), 1);
        due("the first breath lasts as long as it may", x.way(2), 0);
    }

    private static void slide() {
        PlaySpans x = on(3, ev(0, 0, 10, 46), ev(0, 60, 10, 47), ev(0, 100, 10, 65), ev(0, 120, 10, 40),
                ev(0, 140, 10, 39), ev(0, 160, 10, 74), ev(0, 180, 10, 75), ev(0, 200, 10, 48));
        due("the lowest partial", x.states(0), 1);
        dueState(x, 0, 0, 0, 0, 0);
        due("at the end", x.states(1), 1);
        dueState(x, 1, 0, 2, 6, 0);
        due("three places", x.states(2), 3);
        dueState(x, 2, 0, 0, 0, 0);
        dueState(x, 2, 1, 0, 3, 0);
        dueState(x, 2, 2, 1, 5, 0);
        due("the lowest of all", x.states(3), 1);
        due("below all", x.states(4), 0);
        due("the highest of all", x.states(5), 1);
        due("above all", x.states(6), 0);
        dueState(x, 7, 0, 1, 5, 0);
        due("six places in 60", x.step(0, 0, 0), 6);
        due("six places in 40", x.step(1, 0, 0), NONE);
        due("three places in 40", x.step(1, 0, 1), 3);
        due("a place in 40", x.step(1, 0, 2), 1);
        due("base", x.bound(5, 33), 34);
        due("another base", x.states(4), 1);
    }

    private static void sticksStates() {
        PlaySpans x = on(4, ev(0, 0, 5, 60), ev(0, 50, 5, 55), ev(0, 100, 5, 50, 70), ev(0, 200, 5, 60),
                ev(0, 300, 5, 71));
        due("first", x.states(0), 2);
        dueState(x, 0, 0, 0, 0, -1);
        dueState(x, 0, 1, 0, 1, -1);
        due("second", x.states(1), 4);
        dueState(x, 1, 0, 0, 0, -1);
        dueState(x, 1, 1, 0, 0, 0);
        dueState(x, 1, 2, 0, 1, -1);
        dueState(x, 1, 3, 4, 1, 0);
        due("both", x.states(2), 1);
        dueState(x, 2, 0, 0, 2, -1);
        due("after both", x.states(3), 2);
        dueState(x, 3, 0, 0, 0, 2);
        dueState(x, 3, 1, 0, 1, 2);
        due("two after both", x.states(4), 4);
        dueState(x, 4, 0, 4, 0, 2);
        dueState(x, 4, 1, 4, 0, 3);
        dueState(x, 4, 2, 0, 1, 2);
        dueState(x, 4, 3, 0, 1, 3);
    }

    private static void sticksSteps() {
        PlaySpans x = on(4, ev(0, 0, 5, 60), ev(0, 50, 5, 55), ev(0, 100, 5, 50, 60), ev(0, 200, 5, 61),
                ev(0, 300, 5, 62), ev(0, 310, 5, 52, 62));
        due("same hand again", x.step(0, 0, 0), 7);
        due("same hand, wrong other", x.step(0, 0, 1), NONE);
        due("the other hand's first", x.step(0, 0, 3), 0);
        due("the other hand, but never told", x.step(0, 0, 2), NONE);
        due("right again", x.step(0, 1, 2), 7);
        due("left, right was first", x.step(0, 1, 1), 0);
        due("to both, right never", x.step(1, 0, 0), 5);
        due("to both, right in 0", x.step(1, 1, 0), 5);
        due("to both, each from its own event", x.step(1, 3, 0), 15);
        due("to both, left never", x.step(1, 2, 0), 5);
        due("from both by left", x.step(2, 0, 0), NONE);
        due("from both by right", x.step(2, 0, 1), 1);
        due("one to one, same hand", x.step(3, 1, 2), 3);
        due("one to one, other hand", x.step(3, 1, 1), 12);
        due("both again, too late for one", x.step(4, 1, 0), NONE);
        due("both again, from its other", x.step(4, 2, 0), 2);
        due("ahead in time by its own event", x.bound(0, 50), 10);
        due("left from 2 in 210", x.step(4, 2, 0), 2);
    }

    private static void wrongNumbers() {
        for (int kind = 0; kind < 5; kind++) {
            PlaySpans x = on(kind, ev(0, 0, 5, 46), ev(0, 100, 5, 46));
            int count = x.states(0);
            for (int n : WRONG) {
                due("states(" + n + ")", x.states(n), BAD);
                due("state of event", x.state(n, 0, 0), BAD);
                due("state of number", x.state(0, n, 0), BAD);
                due("state of what", x.state(0, 0, n), BAD);
                due("step of event", x.step(n, 0, 0), BAD);
                due("step from", x.step(0, n, 0), BAD);
                due("step to", x.step(0, 0, n), BAD);
                due("way", x.way(n), BAD);
                due("about of event", x.about(n, 0), BAD);
                due("about of what", x.about(0, n), BAD);
                due("told", x.told(n), BAD);
                if (n < 0 || n > 300) {
                    due("ways", x.ways(n), BAD);
                }
            }
            due("states(2)", x.states(2), BAD);
            due("states(-1)", x.states(-1), BAD);
            due("state beyond", x.state(0, count, 0), BAD);
            due("state -1", x.state(0, -1, 0), BAD);
            due("state what 3", x.state(0, 0, 3), BAD);
            due("state what -1", x.state(0, 0, -1), BAD);
            due("step beyond", x.step(0, count, 0), BAD);
            due("step to beyond", x.step(0, 0, x.states(1)), BAD);
            due("step of the last", x.step(1, 0, 0), BAD);
            due("way(2)", x.way(2), BAD);
            due("way(-1)", x.way(-1), BAD);
        }
    }

    private static void compass() {
        int[] pitch = {60, 62, 60, 65, 60};
        for (int kind = 0; kind < 5; kind++) {
            PlaySpans x = on(kind, ev(0, 0, 5, pitch[kind]));
            int count = x.states(0);
            due("low at the note", x.bound(3, pitch[kind]), 0);
            due("as before", x.states(0), count);
            due("low above the note", x.bound(3, pitch[kind] + 1), pitch[kind]);
            due("no states", x.states(0), 0);
            due("stuck", x.stuck(), 0);
            due("low back", x.bound(3, 0), pitch[kind] + 1);
            due("high at the note", x.bound(4, pitch[kind]), 127);
            due("as before", x.states(0), count);
            due("high below the note", x.bound(4, pitch[kind] - 1), pitch[kind]);
            due("no states", x.states(0), 0);
            due("no price", x.price(), NONE);
        }
        PlaySpans two = on(4, ev(0, 0, 5, 50, 60));
        due("high below the upper one", two.bound(4, 59), 127);
        due("no states", two.states(0), 0);
        due("high back", two.bound(4, 60), 59);
        due("low above the lower one", two.bound(3, 51), 0);
        due("no states", two.states(0), 0);
    }

    private static void promise9() {
        PlaySpans x = on(0, ev(1, 0, 5, 60), ev(1, 100, 5, 61), ev(0, 100, 5, 40), ev(0, 200, 5, 41));
        due("both chains together", x.price(), 2);
        due("pin right", x.pin(0, 0), NONE);
        due("pin right", x.pin(1, 0), NONE);
        due("same finger right", x.price(), 5);
        due("left too late", x.bound(0, 100), 10);
        due("just so", x.price(), 5);
        due("the next", x.event(0, 250, 5, 60, -1, -1), 4);
        due("left is stuck, so no way", x.price(), NONE);
        due("drop", x.drop(), 4);
        due("a way again", x.price(), 5);
        PlaySpans sum = on(3, ev(0, 0, 10, 46), ev(0, 100, 10, 47));
        due("states and steps", sum.price(), 8);
    }

    private static void promise10() {
        PlaySpans x = on(0, ev(1, 0, 5, 60), ev(0, 0, 5, 50), ev(1, 100, 5, 60), ev(0, 100, 5, 48));
        due("the least of equals", x.way(0), 0);
        due("the least of equals, left", x.way(1), 0);
        due("the least of equals", x.way(2), 0);
        due("left goes down", x.way(3), 1);
        due("pin the right's last", x.pin(2, 3), NONE);
        due("its first goes along", x.way(0), 3);
        due("left as before", x.way(3), 1);
        due("pin out of reach", x.pin(3, 5), NONE);
        due("no way for left: none for right", x.way(0), NONE);
        due("BAD ahead of NONE", x.way(4), BAD);
        PlaySpans later = on(3, ev(0, 0, 10, 65), ev(0, 100, 10, 48), ev(0, 200, 10, 65));
        due("price over all", later.price(), 3);
        due("a dearer state pays", later.way(0), 2);
        due("the end", later.way(2), 2);
    }

    private static void promise11() {
        PlaySpans x = on(0, ev(1, 0, 5, 60), ev(0, 0, 5, 40), ev(0, 1, 5, 90), ev(1, 1, 5, 100), ev(0, 2, 5, 40));
        due("the least of both", x.stuck(), 2);
        due("still", x.bound(0, 0), 10);
        due("nothing is too far", x.stuck(), NONE);
        due("a pin that is not there", x.pin(3, 7), NONE);
        due("stuck by the pin", x.stuck(), 3);
        due("an earlier one", x.pin(1, 99), NONE);
        due("stuck earlier", x.stuck(), 1);
        PlaySpans w = on(2, ev(0, 0, 20, 60), ev(0, 20, 20, 60), ev(0, 40, 20, 60));
        due("one breath", w.stuck(), NONE);
        due("lung", w.bound(1, 40), 400);
        due("two in a breath", w.stuck(), 2);
        due("an event of no states", w.bound(1, 19), 40);
        due("at once", w.stuck(), 0);
    }

    private static void promise12() {
        PlaySpans x = on(0, ev(1, 0, 5, 60), ev(1, 100, 5, 60));
        due("same place", x.ways(0), 5);
        due("odd", x.ways(1), 5);
        due("one finger off", x.ways(2), 13);
        due("all", x.ways(8), 25);
        due("less again", x.ways(4), 19);
        due("all", x.ways(300), 25);
        due("pin", x.pin(0, 0), NONE);
        due("pinned", x.ways(4), 3);
        due("301", x.ways(301), BAD);
        due("-1", x.ways(-1), BAD);
        due("left", x.event(0, 100, 5, 40, -1, -1), 2);
        due("times its states", x.ways(4), 15);
        due("stuck", x.pin(2, 5), NONE);
        due("no ways", x.ways(300), 0);
        PlaySpans w = on(2, ev(0, 0, 200, 60), ev(0, 200, 200, 60));
        due("breath", w.bound(2, 149), 30);
        due("without the dear one", w.ways(298), 1);
        due("with it", w.ways(299), 2);
        due("dearer", w.bound(2, 150), 149);
        due("just beyond 300", w.ways(300), 1);
    }

    private static void promise12Cap() {
        PlaySpans x = new PlaySpans(0);
        for (int i = 0; i < 12; i++) {
            due("event", x.event(1, 100 * i, 5, 60, -1, -1), i);
        }
        due("5 to the 12th", x.ways(300), 244140625);
        due("one more", x.event(1, 1200, 5, 60, -1, -1), 12);
        due("5 to the 13th", x.ways(300), 1000000000);
        due("in one place", x.ways(0), 5);
        PlaySpans both = new PlaySpans(0);
        for (int i = 0; i < 12; i++) {
            due("event", both.event(i % 2, 100 * i, 5, 60, -1, -1), i);
        }
        due("5 to the 12th by two hands", both.ways(300), 244140625);
        due("one more", both.event(0, 1200, 5, 60, -1, -1), 12);
        due("5 to the 13th by two hands", both.ways(300), 1000000000);
    }

    private static void promise13() {
        PlaySpans x = on(0, ev(1, 0, 5, 60), ev(0, 0, 5, 40), ev(1, 9, 5, 62));
        due("events", x.told(0), 3);
        due("left", x.told(1), 1);
        due("right", x.told(2), 2);
        due("instrument", x.told(3), 0);
        due("pinned", x.told(4), 0);
        due("pin", x.pin(0, 99), NONE);
        due("pin", x.pin(1, 0), NONE);
        due("two pinned", x.told(4), 2);
        due("unpin", x.pin(0, -1), 99);
        due("one pinned", x.told(4), 1);
        due("told -1", x.told(-1), BAD);
        due("told 5", x.told(5), BAD);
    }

    private static void promise14() {
        PlaySpans x = on(0, ev(1, 7, 5, 60, 64, 67), ev(0, 8, 6, 40), ev(0, 9, 1000, 0, 127));
        int[][] want = {{1, 7, 5, 3, 60, 64, 67, NONE}, {0, 8, 6, 1, 40, -1, -1, NONE},
            {0, 9, 1000, 2, 0, 127, -1, NONE}};
        for (int i = 0; i < 3; i++) {
            for (int what = 0; what < 8; what++) {
                due("about(" + i + ", " + what + ")", x.about(i, what), want[i][what]);
            }
            due("pin", x.pin(i, 50 + i), NONE);
            due("about pinned", x.about(i, 7), 50 + i);
        }
        due("about 8", x.about(0, 8), BAD);
        due("about -1", x.about(0, -1), BAD);
        due("event 3", x.about(3, 0), BAD);
        due("event -1", x.about(-1, 0), BAD);
    }

    private static void refusedChangesNothing() {
        PlaySpans x = on(0, ev(1, 10, 5, 60), ev(1, 110, 5, 62));
        due("pin", x.pin(1, 2), NONE);
        due("price", x.price(), 0);
        due("BAD event", x.event(3, 200, 5, 60, -1, -1), BAD);
        due("NOT event", x.event(1, 110, 5, 60, -1, -1), NOT);
        due("BAD bound", x.bound(0, 101), BAD);
        due("BAD pin", x.pin(1, 100), BAD);
        due("events", x.told(0), 2);
        due("pinned still", x.about(1, 7), 2);
        due("bound still", x.bound(0, 10), 10);
        due("price still", x.price(), 0);
        due("way still", x.way(0), 1);
    }
}
