import java.util.ArrayList;
import java.util.List;
import java.util.function.IntSupplier;
import java.util.function.Supplier;
import java.util.function.ToIntFunction;

/** The boundary cases of promises 1 to 14 and of the refusals: a test for each sentence of the document that names one. */
public final class EdgeTest extends Asked {
    private static final int[] NOTES_AT_MOST = {3, 3, 1, 1, 2};
    private static final int[] FROM = {0, 1, 0, 0, 0, 0, 0, 0, 0, 0};
    private static final int[] TO = {100, 2000, 200, 127, 127, 100, 127, 127, 127, 127};
    private static final int[] AT_FIRST = {10, 400, 30, 0, 127, 34, 55, 62, 69, 76};

    public static void main(String[] args) {
        fortyEventsAtMost();
        numberedAsTheyCome();
        usedFor512Calls();
        newHasNoEvents();
        newHasBoundsAsAtFirst();
        nearestInstrumentBelow();
        nearestInstrumentAbove();
        eventHand();
        eventTime();
        eventLength();
        eventPitchRange();
        eventPitchesRise();
        eventNoThirdWithoutSecond();
        eventHowManyNotes();
        eventAfterTheOneInItsChain();
        eventAfterTheEndOfTheOneBefore();
        eventNotBelowTheOneBefore();
        eventFull();
        dropOfNone();
        dropPinnedOrNot();
        dropHowManyThereAre();
        dropMakesRoom();
        dropAndAnotherAtOnce();
        boundOutside();
        boundThatThereIsNot();
        boundWhichItWas();
        boundWorksAtOnce();
        pinOfNoEvent();
        pinToNoNumber();
        pinWhichNumberItWas();
        pinNoMore();
        pinPerhapsItHasNoneSuch();
        statesOfNoEvent();
        statesFewestAndMost();
        stateThatThereIsNot();
        statePlaceMayBeBelowZero();
        stateElseZero();
        stepBad();
        stepWithoutNext();
        stepSkipsTheOtherChain();
        priceWithoutEvents();
        priceOfOneEvent();
        priceNone();
        priceAbove300();
        wayOfNoEvent();
        wayNone();
        wayOfSeveral();
        stuckNone();
        stuckFirstAndLast();
        stuckLeastOfBothChains();
        stuckAsPinned();
        waysOutside();
        waysAtMost();
        waysWithoutEvents();
        waysAt300();
        waysAtTheCap();
        waysCapInEachPart();
        toldOutside();
        toldOfChains();
        aboutOutside();
        aboutNotesThatThereAreNot();
        aboutPinned();
        theFirstRefusalInOrder();
        refusedChangesNothing();
        refusedWhenFullChangesNothing();
        end();
    }

    // ---- what it is

    private static void fortyEventsAtMost() {
        sentence("EVENTS, 40 at most");
        for (int kind = 0; kind < KINDS; kind++) {
            PlaySpans x = filled(kind);
            due("all 40 are there", x.told(0), 40);
            due("a 41st", x.event(0, 50000, 1, 60, -1, -1), FULL);
            due("still 40", x.told(0), 40);
            due("the 40th has its answers", x.about(39, 1), 39 * 100);
            due("no 41st", x.about(40, 1), BAD);
        }
    }

    private static void numberedAsTheyCome() {
        sentence("are numbered 0, 1, .. as they come");
        PlaySpans x = on(KEYBOARD, ev(RIGHT, 0, 5, 60), ev(LEFT, 0, 5, 40), ev(LEFT, 1, 5, 41), ev(RIGHT, 1, 5, 61));
        due("HAND of 0", x.about(0, 0), RIGHT);
        due("HAND of 2", x.about(2, 0), LEFT);
        due("drop", x.drop(), 3);
        due("a number is given again", x.event(LEFT, 2, 5, 42, -1, -1), 3);
        due("to the new one", x.about(3, 4), 42);
    }

    private static void usedFor512Calls() {
        sentence("An object is used for at most 512 calls");
        for (int kind = 0; kind < KINDS; kind++) {
            PlaySpans x = filled(kind);
            int price = x.price();
            int ways = x.ways(300);
            int calls = 42;
            for (; calls + 5 <= 511; calls += 5) {
                due("pin", x.pin(39, 99), NONE);
                due("no way", x.price(), NONE);
                due("unpin", x.pin(39, -1), 99);
                due("a way", x.price(), price);
                due("ways", x.ways(300), ways);
            }
            for (; calls < 511; calls++) {
                due("how many", x.told(0), 40);
            }
            due("the 512th", x.stuck(), NONE);
        }
    }

    /** 40 EVENTS, one each 100, of one PITCH that every INSTRUMENT has. */
    private static PlaySpans filled(int kind) {
        PlaySpans x = new PlaySpans(kind);
        for (int i = 0; i < 40; i++) {
            due("event of 40", x.event(0, 100 * i, 20, 62, -1, -1), i);
        }
        return x;
    }

    // ---- promise 1

    private static void newHasNoEvents() {
        sentence("1: No EVENTS");
        for (int kind = 0; kind < KINDS; kind++) {
            for (int what = 0; what < 5; what++) {
                due("told(" + what + ")", new PlaySpans(kind).told(what), what == 3 ? kind : 0);
            }
            due("drop()", new PlaySpans(kind).drop(), NONE);
            due("price()", new PlaySpans(kind).price(), 0);
            due("stuck()", new PlaySpans(kind).stuck(), NONE);
            due("pin(0, 0)", new PlaySpans(kind).pin(0, 0), BAD);
            due("pin(0, -1)", new PlaySpans(kind).pin(0, -1), BAD);
            due("states(0)", new PlaySpans(kind).states(0), BAD);
            due("state(0, 0, 0)", new PlaySpans(kind).state(0, 0, 0), BAD);
            due("step(0, 0, 0)", new PlaySpans(kind).step(0, 0, 0), BAD);
            due("way(0)", new PlaySpans(kind).way(0), BAD);
            due("about(0, 0)", new PlaySpans(kind).about(0, 0), BAD);
        }
    }

    private static void newHasBoundsAsAtFirst() {
        sentence("1: BOUNDS as at first");
        for (int kind = -1; kind <= KINDS; kind++) {
            PlaySpans x = new PlaySpans(kind);
            for (int what = 0; what < 10; what++) {
                dueBound(x, what, FROM[what], AT_FIRST[what]);
            }
            dueBound(new PlaySpans(kind), 0, 10, 10);
        }
    }

    private static void nearestInstrumentBelow() {
        sentence("1: An INSTRUMENT that there is not: the nearest");
        for (int kind : new int[] {-1, -2, Integer.MIN_VALUE, Integer.MIN_VALUE + 1}) {
            PlaySpans x = new PlaySpans(kind);
            due("told(3) of " + kind, x.told(3), KEYBOARD);
            due("a HAND and three NOTES as on a KEYBOARD", x.event(RIGHT, 0, 5, 60, 64, 67), 0);
            dueState(x, 0, 0, 1, 7, 60);
        }
    }

    private static void nearestInstrumentAbove() {
        sentence("1: An INSTRUMENT that there is not: the nearest");
        for (int kind : new int[] {5, 6, Integer.MAX_VALUE - 1, Integer.MAX_VALUE}) {
            PlaySpans x = new PlaySpans(kind);
            due("told(3) of " + kind, x.told(3), STICKS);
            due("two NOTES as with STICKS", x.event(0, 0, 5, 60, 64, -1), 0);
            dueStates(x, 0, 1);
            dueState(x, 0, 0, 0, 2, -1);
        }
    }

    // ---- promise 2

    private static void eventHand() {
        sentence("2: BAD: HAND; 0 LEFT, 1 RIGHT; 0 but on a KEYBOARD");
        for (int kind = 0; kind < KINDS; kind++) {
            due("HAND -1", new PlaySpans(kind).event(-1, 0, 5, 60, -1, -1), BAD);
            due("HAND 0", new PlaySpans(kind).event(0, 0, 5, 60, -1, -1), 0);
            due("HAND 1", new PlaySpans(kind).event(1, 0, 5, 60, -1, -1), kind == KEYBOARD ? 0 : BAD);
            due("HAND 2", new PlaySpans(kind).event(2, 0, 5, 60, -1, -1), BAD);
            for (int hand : FAR_OUT) {
                due("HAND " + hand, new PlaySpans(kind).event(hand, 0, 5, 60, -1, -1), BAD);
            }
        }
    }

    private static void eventTime() {
        sentence("2: BAD: TIME (0 .. 100000)");
        for (int kind = 0; kind < KINDS; kind++) {
            due("TIME -1", new PlaySpans(kind).event(0, -1, 5, 60, -1, -1), BAD);
            due("TIME 0", new PlaySpans(kind).event(0, 0, 5, 60, -1, -1), 0);
            due("TIME 100000", new PlaySpans(kind).event(0, 100000, 5, 60, -1, -1), 0);
            for (int time : FAR_OUT) {
                due("TIME " + time, new PlaySpans(kind).event(0, time, 5, 60, -1, -1), BAD);
            }
        }
        PlaySpans x = on(WIND, ev(0, 99999, 1, 60), ev(0, 100000, 1000, 60));
        due("the last of all is told", x.about(1, 1), 100000);
        due("none can follow it", x.event(0, 100000, 1, 60, -1, -1), NOT);
        due("beyond TIME", x.event(0, 101000, 1, 60, -1, -1), BAD);
    }

    private static void eventLength() {
        sentence("2: BAD: LENGTH (1 .. 1000)");
        for (int kind = 0; kind < KINDS; kind++) {
            due("LENGTH -1", new PlaySpans(kind).event(0, 0, -1, 60, -1, -1), BAD);
            due("LENGTH 0", new PlaySpans(kind).event(0, 0, 0, 60, -1, -1), BAD);
            due("LENGTH 1", new PlaySpans(kind).event(0, 0, 1, 60, -1, -1), 0);
            due("LENGTH 1000", new PlaySpans(kind).event(0, 0, 1000, 60, -1, -1), 0);
            due("LENGTH 1001", new PlaySpans(kind).event(0, 0, 1001, 60, -1, -1), BAD);
            for (int length : FAR_OUT) {
                due("LENGTH " + length, new PlaySpans(kind).event(0, 0, length, 60, -1, -1), BAD);
            }
        }
    }

    private static void eventPitchRange() {
        sentence("2: BAD: PITCHES 0 .. 127");
        for (int kind = 0; kind < KINDS; kind++) {
            due("p -1", new PlaySpans(kind).event(0, 0, 5, -1, -1, -1), BAD);
            due("p 0", new PlaySpans(kind).event(0, 0, 5, 0, -1, -1), 0);
            due("p 127", new PlaySpans(kind).event(0, 0, 5, 127, -1, -1), 0);
            due("p 128", new PlaySpans(kind).event(0, 0, 5, 128, -1, -1), BAD);
            for (int pitch : FAR_OUT) {
                due("p " + pitch, new PlaySpans(kind).event(0, 0, 5, pitch, -1, -1), BAD);
                due("q " + pitch, new PlaySpans(kind).event(0, 0, 5, 60, pitch, -1), BAD);
                due("r " + pitch, new PlaySpans(kind).event(0, 0, 5, 60, 64, pitch), BAD);
            }
        }
        for (int kind : new int[] {KEYBOARD, STRINGS, STICKS}) {
            due("p -1, q 0", new PlaySpans(kind).event(0, 0, 5, -1, 0, -1), BAD);
            due("q 127", new PlaySpans(kind).event(0, 0, 5, 126, 127, -1), 0);
            due("q 128", new PlaySpans(kind).event(0, 0, 5, 126, 128, -1), BAD);
        }
        for (int kind : new int[] {KEYBOARD, STRINGS}) {
            due("r 127", new PlaySpans(kind).event(0, 0, 5, 125, 126, 127), 0);
            due("r 128", new PlaySpans(kind).event(0, 0, 5, 125, 126, 128), BAD);
            due("r below none", new PlaySpans(kind).event(0, 0, 5, 0, 1, -2), BAD);
        }
    }

    private static void eventPitchesRise() {
        sentence("2: BAD: PITCHES rising, each above the one before");
        for (int kind : new int[] {KEYBOARD, STRINGS, STICKS}) {
            due("q below p", new PlaySpans(kind).event(0, 0, 5, 60, 59, -1), BAD);
            due("q as p", new PlaySpans(kind).event(0, 0, 5, 60, 60, -1), BAD);
            due("q one above p", new PlaySpans(kind).event(0, 0, 5, 60, 61, -1), 0);
            due("0, 0", new PlaySpans(kind).event(0, 0, 5, 0, 0, -1), BAD);
        }
        for (int kind : new int[] {KEYBOARD, STRINGS}) {
            due("r below q", new PlaySpans(kind).event(0, 0, 5, 60, 64, 63), BAD);
            due("r as q", new PlaySpans(kind).event(0, 0, 5, 60, 64, 64), BAD);
            due("r one above q", new PlaySpans(kind).event(0, 0, 5, 60, 64, 65), 0);
            due("q below p, r above both", new PlaySpans(kind).event(0, 0, 5, 60, 59, 64), BAD);
            due("r as p", new PlaySpans(kind).event(0, 0, 5, 60, 64, 60), BAD);
        }
    }

    private static void eventNoThirdWithoutSecond() {
        sentence("2: q, r -1: no second, no third NOTE (r is -1, if q is)");
        for (int kind = 0; kind < KINDS; kind++) {
            due("r without q", new PlaySpans(kind).event(0, 0, 5, 60, -1, 64), BAD);
            due("r 0 without q", new PlaySpans(kind).event(0, 0, 5, 60, -1, 0), BAD);
            due("r -2 without q", new PlaySpans(kind).event(0, 0, 5, 60, -1, -2), BAD);
            PlaySpans x = on(kind, ev(0, 0, 5, 60, -1, -1));
            due("one NOTE", x.about(0, 3), 1);
        }
    }

    private static void eventHowManyNotes() {
        sentence("2: BAD: how many; KEYBOARD (1 to 3), STRINGS (1 to 3), WIND (1), SLIDE (1), STICKS (1, 2)");
        for (int kind = 0; kind < KINDS; kind++) {
            for (int notes = 0; notes <= 3; notes++) {
                PlaySpans x = new PlaySpans(kind);
                int got = x.event(0, 0, 5, notes > 0 ? 60 : -1, notes > 1 ? 64 : -1, notes > 2 ? 67 : -1);
                boolean may = notes > 0 && notes <= NOTES_AT_MOST[kind];
                due(notes + " NOTES on " + kind, got, may ? 0 : BAD);
                due("then there are", x.told(0), may ? 1 : 0);
                due("of as many NOTES", x.about(0, 3), may ? notes : BAD);
            }
        }
    }

    private static void eventAfterTheOneInItsChain() {
        sentence("2: NOT: its TIME is not above that of the EVENT before it in its CHAIN");
        for (int kind = 0; kind < KINDS; kind++) {
            PlaySpans x = on(kind, ev(0, 50, 1, 60));
            due("ahead of it", x.event(0, 49, 1, 60, -1, -1), NOT);
            due("at its TIME", x.event(0, 50, 1, 60, -1, -1), NOT);
            due("one above", x.event(0, 51, 1, 60, -1, -1), 1);
            due("at the new one's TIME", x.event(0, 51, 1, 60, -1, -1), NOT);
        }
        PlaySpans y = on(KEYBOARD, ev(RIGHT, 50, 9, 60), ev(LEFT, 50, 9, 40));
        due("as the last EVENT, but its CHAIN was there", y.event(RIGHT, 50, 9, 62, -1, -1), NOT);
        due("one above, while both last", y.event(RIGHT, 51, 9, 62, -1, -1), 2);
    }

    private static void eventAfterTheEndOfTheOneBefore() {
        sentence("2: NOT: it begins ahead of the end (TIME and LENGTH) of that one (WIND, SLIDE)");
        for (int kind = 0; kind < KINDS; kind++) {
            boolean oneAtOnce = kind == WIND || kind == SLIDE;
            PlaySpans x = on(kind, ev(0, 100, 1000, 60));
            due("one after its begin", x.event(0, 101, 1, 60, -1, -1), oneAtOnce ? NOT : 1);
            due("one ahead of its end", x.event(0, 1099, 1, 60, -1, -1), oneAtOnce ? NOT : 2);
            due("at its end", x.event(0, 1100, 1, 60, -1, -1), oneAtOnce ? 1 : 3);
            due("at the end of the shortest", x.event(0, 1101, 1, 60, -1, -1), oneAtOnce ? 2 : 4);
        }
    }

    private static void eventNotBelowTheOneBefore() {
        sentence("2: NOT: its TIME is below that of the EVENT before it");
        PlaySpans x = on(KEYBOARD, ev(RIGHT, 50, 9, 60));
        due("the other HAND, one below", x.event(LEFT, 49, 9, 40, -1, -1), NOT);
        due("the other HAND, at 0", x.event(LEFT, 0, 9, 40, -1, -1), NOT);
        due("the other HAND, at once", x.event(LEFT, 50, 9, 40, -1, -1), 1);
        due("on", x.event(LEFT, 90, 9, 40, -1, -1), 2);
        due("above its CHAIN, below the last EVENT", x.event(RIGHT, 89, 9, 62, -1, -1), NOT);
        due("above its CHAIN, as the last EVENT", x.event(RIGHT, 90, 9, 62, -1, -1), 3);
        due("the first of all may have any TIME", new PlaySpans(KEYBOARD).event(LEFT, 0, 9, 40, -1, -1), 0);
    }

    private static void eventFull() {
        sentence("2: FULL");
        PlaySpans x = new PlaySpans(KEYBOARD);
        for (int i = 0; i < 40; i++) {
            due("the HANDS in turn", x.event(i % 2, 10 * i, 5, 60, -1, -1), i);
        }
        due("a 41st of the left", x.event(LEFT, 400, 5, 60, -1, -1), FULL);
        due("a 41st of the right", x.event(RIGHT, 400, 5, 60, -1, -1), FULL);
        due("the left", x.told(1), 20);
        due("the right", x.told(2), 20);
        due("drop", x.drop(), 39);
        due("the 40th anew", x.event(LEFT, 400, 5, 60, -1, -1), 39);
        due("FULL anew", x.event(LEFT, 410, 5, 60, -1, -1), FULL);
    }

    // ---- promise 3

    private static void dropOfNone() {
        sentence("3: NONE: there was none");
        for (int kind = 0; kind < KINDS; kind++) {
            PlaySpans x = new PlaySpans(kind);
            due("of none", x.drop(), NONE);
            due("of none again", x.drop(), NONE);
            due("an EVENT", x.event(0, 0, 5, 60, -1, -1), 0);
            due("of one", x.drop(), 0);
            due("of none left", x.drop(), NONE);
            due("there are", x.told(0), 0);
        }
    }

    private static void dropPinnedOrNot() {
        sentence("3: The last EVENT goes, PINNED or not");
        PlaySpans x = on(KEYBOARD, ev(RIGHT, 0, 5, 60), ev(LEFT, 0, 5, 40), ev(LEFT, 9, 5, 41));
        duePin(x, 2, 99, NONE);
        duePin(x, 1, 4, NONE);
        due("a PINNED one", x.drop(), 2);
        due("one PINNED is left", x.told(4), 1);
        due("a new one", x.event(LEFT, 9, 5, 43, -1, -1), 2);
        due("it is not PINNED", x.about(2, 7), NONE);
        due("the one before still is", x.about(1, 7), 4);
        due("nor was it", x.pin(2, 3), NONE);
        due("one not PINNED, after", x.pin(2, -1), 3);
        due("goes too", x.drop(), 2);
        due("the last of the left stays", x.about(1, 4), 40);
    }

    private static void dropHowManyThereAre() {
        sentence("3: how many there are");
        for (int kind = 0; kind < KINDS; kind++) {
            PlaySpans x = filled(kind);
            for (int left = 39; left >= 0; left--) {
                due("drop", x.drop(), left);
                due("told(0)", x.told(0), left);
                due("states of the dropped one", x.states(left), BAD);
            }
            due("price without EVENTS", x.price(), 0);
        }
    }

    private static void dropMakesRoom() {
        sentence("3: The last EVENT goes");
        PlaySpans x = on(SLIDE, ev(0, 0, 10, 46), ev(0, 100, 1000, 50));
        due("no room in time", x.event(0, 500, 10, 46, -1, -1), NOT);
        due("by three PLACES", x.price(), 3);
        due("drop", x.drop(), 1);
        dueWay(x, 0, 0);
        due("not ahead of the one left", x.event(0, 9, 10, 46, -1, -1), NOT);
        due("room in time", x.event(0, 10, 10, 46, -1, -1), 1);
        dueWay(x, 0, 0, 0);
        dueWays(x, 300, 1);
    }

    /** Nothing is asked between the two, so that an answer kept for the dropped one would show. */
    private static void dropAndAnotherAtOnce() {
        sentence("3: The last EVENT goes");
        int[][] gone = {ev(0, 90, 5, 60, 67), ev(0, 90, 5, 54), ev(0, 90, 401, 62), ev(0, 90, 5, 39), ev(0, 90, 5, 60, 61)};
        int[] before = {5, 0, 0, 0, 1};
        int[][] come = {ev(60, 61), ev(55, -1), ev(62, -1), ev(40, -1), ev(60, -1)};
        int[] after = {10, 12, 2, 1, 4};
        for (int kind = 0; kind < KINDS; kind++) {
            PlaySpans x = on(kind, ev(0, 0, 5, 62), gone[kind]);
            dueStates(x, 1, before[kind]);
            due("drop", x.drop(), 1);
            due("another", x.event(0, 80, 5, come[kind][0], come[kind][1], -1), 1);
            dueStates(x, 1, after[kind]);
            due("drop", x.drop(), 1);
            due("the first again", x.event(0, 90, gone[kind][2], gone[kind][3], gone[kind].length > 4 ? gone[kind][4] : -1, -1), 1);
            dueStates(x, 1, before[kind]);
        }
    }

    // ---- promise 4

    private static void boundOutside() {
        sentence("4: BAD; BOUNDS (what, from, to, at first)");
        for (int kind = 0; kind < KINDS; kind++) {
            PlaySpans x = new PlaySpans(kind);
            for (int what = 0; what < 10; what++) {
                dueBound(x, what, FROM[what] - 1, BAD);
                dueBound(x, what, TO[what] + 1, BAD);
                for (int v : FAR_OUT) {
                    dueBound(x, what, v, BAD);
                }
                dueBound(x, what, FROM[what], AT_FIRST[what]);
                dueBound(x, what, TO[what], FROM[what]);
                dueBound(x, what, TO[what] + 1, BAD);
                dueBound(x, what, FROM[what] - 1, BAD);
                dueBound(x, what, AT_FIRST[what], TO[what]);
            }
        }
    }

    private static void boundThatThereIsNot() {
        sentence("4: BAD: a number is none that there is");
        PlaySpans x = new PlaySpans(STRINGS);
        for (int v : new int[] {-1, 0, 1, 50}) {
            dueBound(x, -1, v, BAD);
            dueBound(x, 10, v, BAD);
            for (int what : FAR_OUT) {
                dueBound(x, what, v, BAD);
            }
        }
    }

    private static void boundWhichItWas() {
        sentence("4: A BOUND becomes v: which it was");
        for (int what = 0; what < 10; what++) {
            PlaySpans x = new PlaySpans(SLIDE);
            dueBound(x, what, 77, AT_FIRST[what]);
            dueBound(x, what, 77, 77);
            for (int other = 0; other < 10; other++) {
                dueBound(x, other, AT_FIRST[other], other == what ? 77 : AT_FIRST[other]);
            }
        }
        PlaySpans y = new PlaySpans(KEYBOARD);
        dueBound(y, 3, 127, 0);
        dueBound(y, 4, 0, 127);
        due("LOW above HIGH: an EVENT comes all the same", y.event(LEFT, 0, 5, 60, -1, -1), 0);
        dueStates(y, 0, 0);
    }

    /** Each BOUND that an INSTRUMENT looks at changes what was answered just before. */
    private static void boundWorksAtOnce() {
        sentence("4: A BOUND becomes v");
        PlaySpans keys = on(KEYBOARD, ev(RIGHT, 0, 5, 60), ev(RIGHT, 10, 5, 80));
        dueNoWay(keys, 1);
        dueBound(keys, 0, 0, 10);
        dueWay(keys, 12, 0, 4);
        dueWays(keys, 12, 1);
        dueBound(keys, 0, 1, 0);
        dueNoWay(keys, 1);
        PlaySpans wind = on(WIND, ev(0, 0, 50, 60), ev(0, 50, 50, 60));
        dueWay(wind, 0, 0, 0);
        dueBound(wind, 1, 99, 400);
        dueWay(wind, 61, 0, 0);
        due("its own BREATH", wind.state(1, 0, 1), 1);
        dueBound(wind, 2, 0, 30);
        dueWay(wind, 1, 0, 0);
        PlaySpans slide = on(SLIDE, ev(0, 0, 50, 46));
        dueState(slide, 0, 0, 0, 0, 0);
        dueBound(slide, 5, 40, 34);
        dueState(slide, 0, 0, 2, 6, 0);
        due("price", slide.price(), 2);
        PlaySpans strings = on(STRINGS, ev(0, 0, 50, 55));
        dueStates(strings, 0, 12);
        dueBound(strings, 6, 54, 55);
        dueStates(strings, 0, 1);
    }

    // ---- promise 5

    private static void pinOfNoEvent() {
        sentence("5: BAD: an EVENT that there is not");
        PlaySpans x = on(WIND, ev(0, 0, 5, 60), ev(0, 9, 5, 60));
        for (int number : new int[] {-1, 0, 99}) {
            duePin(x, -1, number, BAD);
            duePin(x, 2, number, BAD);
            duePin(x, 40, number, BAD);
            for (int i : FAR_OUT) {
                duePin(x, i, number, BAD);
            }
        }
        due("none PINNED", x.told(4), 0);
    }

    private static void pinToNoNumber() {
        sentence("5: the STATE of a number 0 .. 99, with -1 no more; BAD");
        PlaySpans x = on(WIND, ev(0, 0, 5, 60));
        duePin(x, 0, -2, BAD);
        duePin(x, 0, 100, BAD);
        duePin(x, 0, 0, NONE);
        duePin(x, 0, 99, 0);
        duePin(x, 0, 100, BAD);
        duePin(x, 0, -2, BAD);
        for (int number : FAR_OUT) {
            duePin(x, 0, number, BAD);
        }
        due("PINNED as it was", x.about(0, 7), 99);
        PlaySpans most = filled(STICKS);
        duePin(most, 39, 79, NONE);
        due("the last STATE that any EVENT has", most.way(39), 79);
        duePin(most, 39, 80, 79);
        due("one beyond it", most.way(39), NONE);
    }

    private static void pinWhichNumberItWas() {
        sentence("5: which number it was (NONE)");
        PlaySpans x = on(KEYBOARD, ev(RIGHT, 0, 5, 60), ev(RIGHT, 90, 5, 60));
        duePin(x, 1, 0, NONE);
        duePin(x, 1, 0, 0);
        duePin(x, 1, 98, 0);
        duePin(x, 1, -1, 98);
        duePin(x, 1, -1, NONE);
        due("the other one never was", x.pin(0, -1), NONE);
    }

    private static void pinNoMore() {
        sentence("5: with -1 no more");
        PlaySpans x = on(KEYBOARD, ev(RIGHT, 0, 5, 60), ev(RIGHT, 90, 5, 60));
        dueWay(x, 0, 0, 0);
        duePin(x, 1, 4, NONE);
        dueWay(x, 0, 4, 4);
        dueWays(x, 300, 5);
        duePin(x, 0, 0, NONE);
        dueWay(x, 8, 0, 4);
        dueWays(x, 300, 1);
        duePin(x, 1, -1, 4);
        dueWay(x, 0, 0, 0);
        dueWays(x, 300, 5);
        duePin(x, 0, -1, 0);
        dueWays(x, 300, 25);
    }

    private static void pinPerhapsItHasNoneSuch() {
        sentence("PINNED, an EVENT must have a STATE of a number (perhaps it has none such: then there is no WAY)");
        for (int kind = 0; kind < KINDS; kind++) {
            PlaySpans x = on(kind, ev(0, 0, 5, 62), ev(0, 90, 5, 62));
            int last = x.states(1) - 1;
            duePin(x, 1, last, NONE);
            due("its last STATE: no EVENT is stuck", x.stuck(), NONE);
            due("its last STATE is taken", x.way(1), last);
            duePin(x, 1, last + 1, last);
            dueNoWay(x, 1);
            dueStates(x, 1, last + 1);
            duePin(x, 1, 99, last + 1);
            dueNoWay(x, 1);
            duePin(x, 0, 99, NONE);
            dueNoWay(x, 0);
        }
    }

    // ---- promises 6, 7, 8

    private static void statesOfNoEvent() {
        sentence("6: BAD");
        for (int kind = 0; kind < KINDS; kind++) {
            PlaySpans x = on(kind, ev(0, 0, 5, 62), ev(0, 90, 5, 62));
            dueStates(x, -1, BAD);
            dueStates(x, 2, BAD);
            dueStates(x, 39, BAD);
            dueStates(x, 40, BAD);
            for (int i : FAR_OUT) {
                dueStates(x, i, BAD);
            }
        }
    }

    private static void statesFewestAndMost() {
        sentence("6: How many STATES an EVENT has");
        dueStates(on(KEYBOARD, ev(RIGHT, 0, 5, 0, 127)), 0, 0);
        dueStates(on(KEYBOARD, ev(RIGHT, 0, 5, 60, 61)), 0, 10);
        PlaySpans strings = on(STRINGS, ev(0, 0, 5, 60));
        for (int what = 6; what < 10; what++) {
            dueBound(strings, what, 60, AT_FIRST[what]);
        }
        dueStates(strings, 0, 48);
        dueState(strings, 0, 47, 0, 11, 3);
        PlaySpans wind = filled(WIND);
        dueBound(wind, 1, 799, 400);
        dueStates(wind, 39, 39);
        due("the first BREATH ended", wind.state(39, 0, 1), 1);
        dueBound(wind, 1, 800, 799);
        dueStates(wind, 39, 40);
        due("the first BREATH", wind.state(39, 0, 1), 0);
        PlaySpans sticks = filled(STICKS);
        dueStates(sticks, 0, 2);
        dueStates(sticks, 39, 80);
        dueState(sticks, 39, 0, 0, 0, -1);
        dueState(sticks, 39, 39, 0, 0, 38);
        dueState(sticks, 39, 40, 0, 1, -1);
        dueState(sticks, 39, 79, 0, 1, 38);
    }

    private static void stateThatThereIsNot() {
        sentence("7: BAD");
        for (int kind = 0; kind < KINDS; kind++) {
            PlaySpans x = on(kind, ev(0, 0, 5, 62), ev(0, 90, 5, 62));
            int count = x.states(0);
            for (int what = 0; what <= 2; what++) {
                due("EVENT -1", x.state(-1, 0, what), BAD);
                due("EVENT 2", x.state(2, 0, what), BAD);
                due("EVENT 40", x.state(40, 0, what), BAD);
                due("STATE -1", x.state(0, -1, what), BAD);
                due("STATE beyond the last", x.state(0, count, what), BAD);
            }
            due("what -1", x.state(0, 0, -1), BAD);
            due("what 3", x.state(0, 0, 3), BAD);
            for (int n : FAR_OUT) {
                due("EVENT " + n, x.state(n, 0, 0), BAD);
                due("STATE " + n, x.state(0, n, 0), BAD);
                due("what " + n, x.state(0, 0, n), BAD);
            }
            dueBound(x, 4, 61, 127);
            due("without STATES", x.state(0, 0, 0), BAD);
        }
    }

    private static void statePlaceMayBeBelowZero() {
        sentence("7: KEYBOARD the PLACE (it may be -1)");
        PlaySpans x = on(KEYBOARD, ev(RIGHT, 0, 5, 1), ev(RIGHT, 9, 5, 0), ev(LEFT, 9, 5, 127), ev(RIGHT, 20, 5, 3, 4));
        dueState(x, 0, 0, 0, 1, 1);
        dueState(x, 0, 1, 0, 2, -1);
        dueState(x, 0, 2, 0, 4, -3);
        dueState(x, 1, 0, 0, 1, 0);
        dueState(x, 1, 4, 0, 16, -8);
        dueState(x, 2, 0, 0, 1, 127);
        dueState(x, 2, 4, 0, 16, 135);
        due("FINGERS 3, 4", x.state(3, 5, 1), 12);
        due("their PLACE", x.state(3, 5, 2), -1);
    }

    private static void stateElseZero() {
        sentence("7: STICKS OTHER (with both HANDS -1), else 0");
        PlaySpans wind = on(WIND, ev(0, 0, 5, 60), ev(0, 9, 5, 60));
        dueState(wind, 1, 0, 0, 0, 0);
        dueState(wind, 1, 1, 0, 1, 0);
        dueState(on(SLIDE, ev(0, 0, 5, 41)), 0, 0, 1, 5, 0);
        PlaySpans sticks = on(STICKS, ev(0, 0, 5, 60), ev(0, 9, 5, 60, 61));
        dueState(sticks, 0, 0, 0, 0, -1);
        dueState(sticks, 0, 1, 0, 1, -1);
        dueState(sticks, 1, 0, 0, 2, -1);
    }

    private static void stepBad() {
        sentence("8: BAD");
        int[] ofTheLastStates = {0, 0, 1, 0, NONE};
        for (int kind = 0; kind < KINDS; kind++) {
            PlaySpans x = on(kind, ev(0, 0, 5, 62), ev(0, 90, 5, 62));
            int here = x.states(0);
            int there = x.states(1);
            dueStep(x, 0, here - 1, there - 1, ofTheLastStates[kind]);
            dueStep(x, -1, 0, 0, BAD);
            dueStep(x, 2, 0, 0, BAD);
            dueStep(x, 0, -1, 0, BAD);
            dueStep(x, 0, here, 0, BAD);
            dueStep(x, 0, 0, -1, BAD);
            dueStep(x, 0, 0, there, BAD);
            for (int n : FAR_OUT) {
                dueStep(x, n, 0, 0, BAD);
                dueStep(x, 0, n, 0, BAD);
                dueStep(x, 0, 0, n, BAD);
            }
        }
        PlaySpans x = on(KEYBOARD, ev(RIGHT, 0, 5, 62), ev(RIGHT, 90, 5, 62, 90), ev(RIGHT, 180, 5, 62));
        dueStep(x, 0, 0, 0, BAD);
        dueStep(x, 1, 0, 0, BAD);
    }

    private static void stepWithoutNext() {
        sentence("8: BAD: also when there is no next one");
        for (int kind = 0; kind < KINDS; kind++) {
            PlaySpans x = on(kind, ev(0, 0, 5, 62));
            dueStep(x, 0, 0, 0, BAD);
            due("a next one", x.event(0, 90, 5, 62, -1, -1), 1);
            due("a step", x.step(0, 0, 0) == BAD ? 1 : 0, 0);
            dueStep(x, 1, 0, 0, BAD);
            due("drop", x.drop(), 1);
            dueStep(x, 0, 0, 0, BAD);
        }
        PlaySpans y = on(KEYBOARD, ev(RIGHT, 0, 5, 62), ev(LEFT, 5, 5, 62), ev(LEFT, 9, 5, 62));
        dueStep(y, 0, 0, 0, BAD);
        dueStep(y, 1, 0, 0, 0);
        dueStep(y, 2, 0, 0, BAD);
        PlaySpans filled = filled(STRINGS);
        dueStep(filled, 38, 0, 0, 0);
        dueStep(filled, 39, 0, 0, BAD);
    }

    private static void stepSkipsTheOtherChain() {
        sentence("8: the next one of its CHAIN; GAP is the TIME of the next EVENT less that of this one");
        PlaySpans x = on(KEYBOARD, ev(RIGHT, 0, 5, 60), ev(LEFT, 39, 5, 20, 24, 27), ev(LEFT, 40, 5, 20),
                ev(RIGHT, 40, 5, 64));
        dueStep(x, 0, 0, 4, 4);
        dueStep(x, 0, 1, 4, 2);
        dueStep(x, 0, 1, 0, NONE);
        dueStep(x, 3, 0, 0, BAD);
    }

    // ---- promises 9, 10, 11

    private static void priceWithoutEvents() {
        sentence("9: 0 without EVENTS");
        for (int kind = 0; kind < KINDS; kind++) {
            PlaySpans x = new PlaySpans(kind);
            due("new", x.price(), 0);
            due("one that can't be played", x.event(0, 0, 5, 1, -1, -1), 0);
            dueBound(x, 3, 2, 0);
            due("no way", x.price(), NONE);
            due("drop", x.drop(), 0);
            due("none again", x.price(), 0);
        }
    }

    private static void priceOfOneEvent() {
        sentence("9: The PRICE of THE WAY");
        dueWay(on(KEYBOARD, ev(RIGHT, 0, 5, 60, 67)), 0, 2);
        dueWay(on(KEYBOARD, ev(LEFT, 0, 5, 60, 76)), 6, 0);
        dueWay(on(STRINGS, ev(0, 0, 5, 59)), 1, 1);
        dueWay(on(WIND, ev(0, 0, 400, 59)), 0, 0);
        dueWay(on(SLIDE, ev(0, 0, 5, 40)), 2, 0);
        dueWay(on(STICKS, ev(0, 0, 5, 60)), 0, 0);
        dueWay(on(STICKS, ev(0, 0, 5, 60, 127)), 0, 0);
    }

    private static void priceNone() {
        sentence("9: NONE: there is none");
        dueNoWay(on(KEYBOARD, ev(RIGHT, 0, 5, 60, 77)), 0);
        dueNoWay(on(STRINGS, ev(0, 0, 5, 54)), 0);
        dueNoWay(on(WIND, ev(0, 0, 401, 60)), 0);
        dueNoWay(on(SLIDE, ev(0, 0, 5, 39)), 0);
        dueNoWay(on(STICKS, ev(0, 0, 5, 60, 70), ev(0, 99, 5, 70, 80)), 1);
        PlaySpans oneChain = on(KEYBOARD, ev(RIGHT, 0, 5, 60), ev(LEFT, 0, 5, 40), ev(LEFT, 1, 5, 90));
        dueNoWay(oneChain, 2);
    }

    private static void priceAbove300() {
        sentence("9: The PRICE of THE WAY");
        PlaySpans x = new PlaySpans(KEYBOARD);
        dueBound(x, 0, 0, 10);
        for (int i = 0; i < 40; i++) {
            due("event", x.event(RIGHT, i, 5, i % 2 == 0 ? 0 : 127, -1, -1), i);
            duePin(x, i, i % 2 == 0 ? 4 : 0, NONE);
        }
        due("39 times 135", x.price(), 5265);
        due("nothing is stuck", x.stuck(), NONE);
        due("a STATE in it", x.way(38), 4);
        dueWays(x, 300, 0);
    }

    private static void wayOfNoEvent() {
        sentence("10: BAD");
        for (int kind = 0; kind < KINDS; kind++) {
            PlaySpans x = on(kind, ev(0, 0, 5, 62), ev(0, 90, 5, 62));
            for (int round = 0; round < 2; round++) {
                due("way(-1)", x.way(-1), BAD);
                due("way(2)", x.way(2), BAD);
                due("way(40)", x.way(40), BAD);
                for (int i : FAR_OUT) {
                    due("way(" + i + ")", x.way(i), BAD);
                }
                // the second time there is no WAY either: BAD comes first
                due("way(0)", x.way(0), round == 0 ? 0 : NONE);
                x.pin(0, 99);
            }
        }
    }

    private static void wayNone() {
        sentence("10: NONE: there is none");
        PlaySpans x = on(KEYBOARD, ev(RIGHT, 0, 5, 60), ev(LEFT, 0, 5, 40), ev(RIGHT, 90, 5, 60), ev(LEFT, 90, 5, 40));
        dueWay(x, 0, 0, 0, 0, 0);
        duePin(x, 3, 5, NONE);
        dueNoWay(x, 3);
        duePin(x, 3, 4, 5);
        dueWay(x, 0, 0, 4, 0, 4);
    }

    private static void wayOfSeveral() {
        sentence("of several the one whose STATE has the lesser number, where two differ first (by EVENTS in order)");
        dueWay(on(KEYBOARD, ev(RIGHT, 0, 5, 60), ev(RIGHT, 90, 5, 64)), 0, 0, 2);
        dueWay(on(KEYBOARD, ev(RIGHT, 0, 5, 64), ev(RIGHT, 90, 5, 60)), 0, 2, 0);
        PlaySpans both = on(KEYBOARD, ev(RIGHT, 0, 5, 60), ev(LEFT, 0, 5, 40), ev(LEFT, 90, 5, 44), ev(RIGHT, 90, 5, 64));
        dueWay(both, 0, 0, 2, 0, 2);
        // a BREATH ahead of EVENT 1 (0, 1, 0) is as dear as one ahead of EVENT 2 (0, 0, 1)
        PlaySpans wind = on(WIND, ev(0, 0, 20, 60), ev(0, 20, 20, 60), ev(0, 40, 20, 60));
        dueBound(wind, 2, 10, 30);
        dueBound(wind, 1, 40, 400);
        dueWay(wind, 21, 0, 0, 1);
        dueWays(wind, 20, 0);
        dueWays(wind, 21, 2);
        dueWays(wind, 42, 3);
        sentence("THE WAY is one of the least PRICE");
        // here the later BREATH is dearer by 2
        PlaySpans rest = on(WIND, ev(0, 0, 20, 60), ev(0, 21, 20, 60), ev(0, 41, 20, 60));
        dueBound(rest, 2, 10, 30);
        dueBound(rest, 1, 40, 400);
        dueWay(rest, 19, 0, 1, 0);
    }

    private static void stuckNone() {
        sentence("11: NONE");
        for (int kind = 0; kind < KINDS; kind++) {
            due("without EVENTS", new PlaySpans(kind).stuck(), NONE);
            due("of 40", filled(kind).stuck(), NONE);
        }
    }

    private static void stuckFirstAndLast() {
        sentence("11: The least EVENT up to which (with it) its CHAIN can't be played");
        for (int kind = 0; kind < KINDS; kind++) {
            PlaySpans x = filled(kind);
            due("drop", x.drop(), 39);
            due("the last of all is too high", x.event(0, 5000, 5, 127, -1, -1), 39);
            dueBound(x, 4, 126, 127);
            due("the last", x.stuck(), 39);
            dueBound(x, 4, 61, 126);
            due("the first", x.stuck(), 0);
            due("no price", x.price(), NONE);
        }
        PlaySpans far = on(KEYBOARD, ev(RIGHT, 0, 5, 20), ev(RIGHT, 5, 5, 90), ev(RIGHT, 9, 5, 20));
        dueStates(far, 1, 5);
        dueNoWay(far, 1);
        // each STEP by itself is there, but no row of them
        PlaySpans row = on(STICKS, ev(0, 0, 5, 40), ev(0, 1, 5, 60), ev(0, 2, 5, 80));
        dueStep(row, 0, 0, 3, 0);
        dueStep(row, 1, 0, 5, 0);
        dueNoWay(row, 2);
    }

    private static void stuckLeastOfBothChains() {
        sentence("11: The least EVENT");
        PlaySpans x = on(KEYBOARD, ev(RIGHT, 0, 5, 60), ev(LEFT, 0, 5, 40), ev(RIGHT, 1, 5, 90), ev(LEFT, 1, 5, 90));
        dueNoWay(x, 2);
        PlaySpans y = on(KEYBOARD, ev(RIGHT, 0, 5, 60), ev(LEFT, 0, 5, 40), ev(LEFT, 1, 5, 90), ev(RIGHT, 1, 5, 90));
        dueNoWay(y, 2);
        due("the left's is still there", y.drop(), 3);
        dueNoWay(y, 2);
        due("neither's", y.drop(), 2);
        dueWay(y, 0, 0, 0);
    }

    private static void stuckAsPinned() {
        sentence("11: PINNED as told");
        PlaySpans x = on(KEYBOARD, ev(RIGHT, 0, 5, 60), ev(RIGHT, 20, 5, 60), ev(RIGHT, 40, 5, 60));
        duePin(x, 0, 0, NONE);
        duePin(x, 2, 2, NONE);
        // FINGER 1 to 3 are 4 apart: one of 2 each
        dueWay(x, 4, 0, 1, 2);
        duePin(x, 2, 3, 2);
        dueNoWay(x, 2);
        duePin(x, 1, 2, NONE);
        dueNoWay(x, 1);
        duePin(x, 0, 3, 0);
        dueWay(x, 4, 3, 2, 3);
        duePin(x, 0, 4, 3);
        dueNoWay(x, 1);
    }

    // ---- promise 12

    private static void waysOutside() {
        sentence("12: at most most (0 .. 300); BAD");
        for (int kind = 0; kind < KINDS; kind++) {
            PlaySpans x = on(kind, ev(0, 0, 5, 62));
            dueWays(x, -1, BAD);
            dueWays(x, 301, BAD);
            for (int most : FAR_OUT) {
                dueWays(x, most, BAD);
                dueWays(new PlaySpans(kind), most, BAD);
            }
            due("0 is taken", x.ways(0) >= 0 ? 1 : 0, 1);
            due("300 is taken", x.ways(300) > 0 ? 1 : 0, 1);
        }
    }

    private static void waysAtMost() {
        sentence("12: How many WAYS have a PRICE of at most most");
        PlaySpans x = on(KEYBOARD, ev(RIGHT, 0, 5, 60, 67));
        int[] upTo = {2, 4, 4, 5, 5};
        for (int most = 0; most < upTo.length; most++) {
            dueWays(x, most, upTo[most]);
        }
        for (int most = upTo.length - 1; most >= 0; most--) {
            dueWays(x, most, upTo[most]);
        }
        PlaySpans dear = on(KEYBOARD, ev(LEFT, 0, 5, 60, 76));
        dueWays(dear, 0, 0);
        dueWays(dear, 5, 0);
        dueWays(dear, 6, 1);
        dueWays(dear, 300, 1);
    }

    private static void waysWithoutEvents() {
        sentence("12: How many WAYS; A WAY has for each EVENT one of its STATES");
        for (int kind = 0; kind < KINDS; kind++) {
            PlaySpans x = new PlaySpans(kind);
            dueWays(x, 0, 1);
            dueWays(x, 300, 1);
            due("an EVENT", x.event(0, 0, 5, 10, -1, -1), 0);
            dueBound(x, 3, 11, 0);
            dueWays(x, 300, 0);
            due("drop", x.drop(), 0);
            dueWays(x, 0, 1);
        }
    }

    private static void waysAt300() {
        sentence("12: a PRICE of at most most (0 .. 300)");
        for (int pitch = 36; pitch <= 38; pitch++) {
            PlaySpans x = on(KEYBOARD, ev(RIGHT, 0, 5, 0), ev(RIGHT, 1, 5, 127), ev(RIGHT, 2, 5, 0), ev(RIGHT, 3, 5, pitch));
            dueBound(x, 0, 0, 10);
            for (int i = 0; i < 4; i++) {
                duePin(x, i, 0, NONE);
            }
            // 127, 127 and the last PITCH, with 3 for each STEP
            due("price", x.price(), 263 + pitch);
            dueWays(x, 298, 0);
            dueWays(x, 299, pitch <= 36 ? 1 : 0);
            dueWays(x, 300, pitch <= 37 ? 1 : 0);
        }
        PlaySpans wind = on(WIND, ev(0, 0, 201, 60), ev(0, 201, 200, 60));
        dueBound(wind, 2, 200, 30);
        due("a STEP of more than 300", wind.price(), 401);
        dueWays(wind, 300, 0);
        dueBound(wind, 1, 401, 400);
        dueStep(wind, 0, 0, 1, 401);
        dueWays(wind, 300, 1);
    }

    private static void waysAtTheCap() {
        sentence("12: 1000000000, if there are more");
        PlaySpans x = new PlaySpans(KEYBOARD);
        dueBound(x, 0, 0, 10);
        int ways = 1;
        for (int i = 0; i < 9; i++) {
            due("event", x.event(RIGHT, i, 5, 60, 61, -1), i);
            ways *= 10;
            dueWays(x, 300, ways);
        }
        // the dearest row of all: FINGERS 1, 5 and 4, 5 in turn, 5 times 3 and 8 times 6
        dueWays(x, 62, 999999999);
        dueWays(x, 63, 1000000000);
        due("a tenth", x.event(RIGHT, 9, 5, 60, 61, -1), 9);
        dueWays(x, 300, 1000000000);
        duePin(x, 9, 0, NONE);
        dueWays(x, 300, 1000000000);
        duePin(x, 0, 9, NONE);
        dueWays(x, 300, 100000000);
        duePin(x, 5, 10, NONE);
        dueWays(x, 300, 0);
    }

    private static void waysCapInEachPart() {
        sentence("12: 1000000000, if there are more");
        // of one PRICE: four sets with FINGER 1, two with FINGER 2, one with FINGER 3, none of which moves
        PlaySpans same = new PlaySpans(KEYBOARD);
        for (int i = 0; i < 14; i++) {
            due("event", same.event(RIGHT, 100 * i, 5, 60, 64, -1), i);
        }
        dueWays(same, 0, 268435456 + 16384 + 1);
        due("one more", same.event(RIGHT, 1400, 5, 60, 64, -1), 14);
        dueWays(same, 0, 1000000000);
        // of two CHAINS: 10^5 times 10^4, and one more
        PlaySpans both = new PlaySpans(KEYBOARD);
        dueBound(both, 0, 0, 10);
        for (int i = 0; i < 9; i++) {
            due("event", both.event(i % 2, i, 5, 60, 61, -1), i);
        }
        dueWays(both, 300, 1000000000);
        due("one more of the right", both.event(RIGHT, 9, 5, 60, -1, -1), 9);
        dueWays(both, 300, 1000000000);
        due("less", both.pin(9, 0), NONE);
        due("by a pin", both.pin(0, 0), NONE);
        dueWays(both, 300, 100000000);
        PlaySpans full = new PlaySpans(KEYBOARD);
        for (int i = 0; i < 40; i++) {
            due("event", full.event(i % 2, 100 * i, 5, 60, 64, -1), i);
        }
        dueWays(full, 0, 1000000000);
        dueWays(full, 300, 1000000000);
        duePin(full, 39, 99, NONE);
        dueWays(full, 300, 0);
    }

    // ---- promises 13, 14

    private static void toldOutside() {
        sentence("13: BAD");
        for (int kind = 0; kind < KINDS; kind++) {
            PlaySpans x = on(kind, ev(0, 0, 5, 62));
            due("told(-1)", x.told(-1), BAD);
            due("told(5)", x.told(5), BAD);
            for (int what : FAR_OUT) {
                due("told(" + what + ")", x.told(what), BAD);
            }
        }
    }

    private static void toldOfChains() {
        sentence("13: How many EVENTS (0), of CHAINS 0, 1 (1, 2), which INSTRUMENT (3), of EVENTS that are PINNED (4)");
        for (int kind = 0; kind < KINDS; kind++) {
            PlaySpans x = filled(kind);
            due("told(0)", x.told(0), 40);
            due("told(1)", x.told(1), 40);
            due("told(2)", x.told(2), 0);
            due("told(3)", x.told(3), kind);
            due("told(4)", x.told(4), 0);
            for (int i = 0; i < 40; i++) {
                duePin(x, i, i % 2 == 0 ? 0 : 99, NONE);
                due("told(4)", x.told(4), i + 1);
            }
            duePin(x, 0, 0, 0);
            due("PINNED anew is PINNED once", x.told(4), 40);
            due("drop", x.drop(), 39);
            due("told(4)", x.told(4), 39);
        }
        PlaySpans right = on(KEYBOARD, ev(RIGHT, 0, 5, 62));
        due("the left", right.told(1), 0);
        due("the right", right.told(2), 1);
    }

    private static void aboutOutside() {
        sentence("14: BAD");
        for (int kind = 0; kind < KINDS; kind++) {
            PlaySpans x = on(kind, ev(0, 0, 5, 62), ev(0, 9, 5, 62));
            for (int what = -1; what <= 8; what++) {
                due("EVENT -1", x.about(-1, what), BAD);
                due("EVENT 2", x.about(2, what), BAD);
                due("EVENT 40", x.about(40, what), BAD);
            }
            due("what -1", x.about(0, -1), BAD);
            due("what 8", x.about(0, 8), BAD);
            for (int n : FAR_OUT) {
                due("EVENT " + n, x.about(n, 0), BAD);
                due("what " + n, x.about(0, n), BAD);
            }
        }
    }

    private static void aboutNotesThatThereAreNot() {
        sentence("14: 3 how many NOTES, 4 .. 6 these (-1: none)");
        PlaySpans x = on(KEYBOARD, ev(LEFT, 0, 1, 0), ev(RIGHT, 0, 1000, 0, 127), ev(LEFT, 100000, 5, 0, 1, 2));
        int[][] due = {{LEFT, 0, 1, 1, 0, -1, -1, NONE}, {RIGHT, 0, 1000, 2, 0, 127, -1, NONE},
            {LEFT, 100000, 5, 3, 0, 1, 2, NONE}};
        for (int i = 0; i < 3; i++) {
            for (int what = 0; what < 8; what++) {
                due("about(" + i + ", " + what + ")", x.about(i, what), due[i][what]);
            }
        }
        due("drop", x.drop(), 2);
        due("one NOTE where three were", x.event(LEFT, 50, 5, 9, -1, -1), 2);
        due("NOTES", x.about(2, 3), 1);
        due("no second", x.about(2, 5), -1);
        due("no third", x.about(2, 6), -1);
    }

    private static void aboutPinned() {
        sentence("14: 7 the number it is PINNED to (NONE)");
        PlaySpans x = on(WIND, ev(0, 0, 5, 60), ev(0, 9, 5, 60));
        due("not PINNED", x.about(1, 7), NONE);
        duePin(x, 1, 0, NONE);
        due("to 0", x.about(1, 7), 0);
        duePin(x, 1, 99, 0);
        due("to one it has not", x.about(1, 7), 99);
        due("the other one is not", x.about(0, 7), NONE);
        duePin(x, 1, -1, 99);
        due("no more", x.about(1, 7), NONE);
    }

    // ---- refusals

    private static void theFirstRefusalInOrder() {
        sentence("Of several the first one in this order");
        for (int kind = 0; kind < KINDS; kind++) {
            PlaySpans x = filled(kind);
            due("FULL", x.event(0, 4000, 5, 62, -1, -1), FULL);
            due("NOT and FULL", x.event(0, 3900, 5, 62, -1, -1), NOT);
            due("BAD and FULL", x.event(0, 4000, 0, 62, -1, -1), BAD);
            due("BAD, NOT and FULL", x.event(0, 3900, 5, 128, -1, -1), BAD);
            due("BAD HAND, NOT and FULL", x.event(2, 3900, 5, 62, -1, -1), BAD);
            due("drop", x.drop(), 39);
            due("BAD and NOT", x.event(0, -1, 5, 62, -1, -1), BAD);
            duePin(x, 3, 99, NONE);
            due("BAD and NONE", x.way(39), BAD);
            due("NONE", x.way(38), NONE);
        }
        PlaySpans wind = filled(WIND);
        due("ahead of the end, and FULL", wind.event(0, 3919, 5, 62, -1, -1), NOT);
        PlaySpans left = filled(KEYBOARD);
        due("below the EVENT before it, and FULL", left.event(RIGHT, 3899, 5, 62, -1, -1), NOT);
        due("as the EVENT before it, and FULL", left.event(RIGHT, 3900, 5, 62, -1, -1), FULL);
    }

    private static void refusedChangesNothing() {
        sentence("What is refused changes nothing");
        List<ToIntFunction<PlaySpans>> refused = new ArrayList<>();
        refused.add(x -> x.event(2, 200, 7, 61, -1, -1));
        refused.add(x -> x.event(0, 100001, 7, 61, -1, -1));
        refused.add(x -> x.event(0, 200, 0, 61, -1, -1));
        refused.add(x -> x.event(0, 200, 7, 128, -1, -1));
        refused.add(x -> x.event(0, 200, 7, 61, -1, 64));
        refused.add(x -> x.bound(0, 101));
        refused.add(x -> x.bound(1, 0));
        refused.add(x -> x.bound(-1, 0));
        refused.add(x -> x.bound(10, 0));
        refused.add(x -> x.pin(3, 0));
        refused.add(x -> x.pin(-1, -1));
        refused.add(x -> x.pin(1, 100));
        refused.add(x -> x.pin(1, -2));
        refused.add(x -> x.states(3));
        refused.add(x -> x.state(1, 99, 0));
        refused.add(x -> x.state(1, 0, 3));
        refused.add(x -> x.step(2, 0, 0));
        refused.add(x -> x.way(3));
        refused.add(x -> x.ways(301));
        refused.add(x -> x.ways(-1));
        refused.add(x -> x.told(5));
        refused.add(x -> x.about(0, 8));
        for (int kind = 0; kind < KINDS; kind++) {
            int instrument = kind;
            for (int n = 0; n < refused.size(); n++) {
                dueUnchanged("refused call " + n + " on " + kind, () -> threeEvents(instrument), refused.get(n), BAD);
            }
            dueUnchanged("NOT: at the TIME of the last", () -> threeEvents(instrument),
                    x -> x.event(0, 100, 7, 61, -1, -1), NOT);
            dueUnchanged("drop of none", () -> new PlaySpans(instrument), PlaySpans::drop, NONE);
        }
    }

    /** EVENTS with a PIN, a BOUND of its own, and answers already kept. */
    private static PlaySpans threeEvents(int kind) {
        PlaySpans x = on(kind, ev(0, 0, 5, 62), ev(0, 50, 5, 65), ev(0, 100, 5, 62));
        dueBound(x, 0, 1, 10);
        duePin(x, 1, 1, NONE);
        x.price();
        x.ways(300);
        return x;
    }

    private static void dueUnchanged(String name, Supplier<PlaySpans> made, ToIntFunction<PlaySpans> call, int answer) {
        PlaySpans x = made.get();
        due(name, call.applyAsInt(x), answer);
        List<Integer> got = everything(x);
        List<Integer> want = everything(made.get());
        due(name + ": as many answers after it", got.size(), want.size());
        for (int n = 0; n < Math.min(got.size(), want.size()); n++) {
            due(name + ": answer " + n + " after it", got.get(n), want.get(n));
        }
    }

    /** What an object of a few EVENTS answers; the BOUNDS last, for they can only be read by setting them. */
    private static List<Integer> everything(PlaySpans x) {
        List<Integer> all = new ArrayList<>(List.of(x.price(), x.stuck(), x.ways(10), x.ways(300)));
        for (int what = 0; what < 5; what++) {
            all.add(x.told(what));
        }
        for (int i = 0; i < x.told(0); i++) {
            all.add(x.way(i));
            all.add(x.states(i));
            for (int what = 0; what < 8; what++) {
                all.add(x.about(i, what));
            }
            for (int k = 0; k < Math.min(3, x.states(i)); k++) {
                for (int what = 0; what < 3; what++) {
                    all.add(x.state(i, k, what));
                    all.add(x.step(i, k, what));
                }
            }
        }
        for (int what = 0; what < 10; what++) {
            all.add(x.bound(what, 50));
        }
        return all;
    }

    private static void refusedWhenFullChangesNothing() {
        sentence("What is refused changes nothing");
        for (int kind = 0; kind < KINDS; kind++) {
            PlaySpans x = filled(kind);
            int price = x.price();
            int ways = x.ways(30);
            due("FULL", x.event(0, 9000, 9, 70, -1, -1), FULL);
            for (int i = 0; i < 40; i++) {
                due("TIME", x.about(i, 1), 100 * i);
                due("LENGTH", x.about(i, 2), 20);
                due("PITCH", x.about(i, 4), 62);
                due("not PINNED", x.about(i, 7), NONE);
            }
            List<IntSupplier> as = List.of(x::price, () -> x.ways(30), () -> x.told(0), () -> x.told(1), x::stuck);
            int[] before = {price, ways, 40, 40, NONE};
            for (int n = 0; n < before.length; n++) {
                due("as before FULL: " + n, as.get(n).getAsInt(), before[n]);
            }
            due("the TIME refused is not kept", x.drop(), 39);
            due("so one ahead of it comes", x.event(0, 3900, 9, 62, -1, -1), 39);
        }
    }
}
