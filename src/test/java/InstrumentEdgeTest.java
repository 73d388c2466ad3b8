/** The boundary cases of "Terms" and of the five INSTRUMENTS: a test for each sentence of the document that names one. */
public final class InstrumentEdgeTest extends Asked {
    public static void main(String[] args) {
        belowLow();
        aboveHigh();
        withoutStatesOnlyItself();
        keyboardOneNote();
        keyboardReach();
        keyboardPrice();
        keyboardThreeNotes();
        keyboardHandsMirror();
        keyboardPlaceOfChord();
        keyboardStepInTime();
        keyboardLongestStep();
        keyboardSameFinger();
        stringsStop();
        stringsStopPrice();
        stringsEveryNoteHasAStop();
        stringsOnlyFour();
        stringsOrder();
        stringsStepInTime();
        windLung();
        windLungTooSmall();
        windLungAtItsMost();
        windSameBreath();
        windRest();
        windNoTimeToBreathe();
        windLengthIsOfTheOneBefore();
        slidePartials();
        slideLowestAndHighest();
        slidePriceOfPlaces();
        slideStepInTime();
        sticksBothHands();
        sticksOther();
        sticksOtherBehindTwoNotes();
        sticksCrossing();
        sticksCrossingTwoNotes();
        sticksStepInTime();
        sticksStepFromItsOwnEvent();
        sticksNever();
        sticksSameHandAgain();
        sticksOtherMustBeSo();
        sticksBothToBoth();
        end();
    }

    /** The number of the STATE whose first number (what = 1) is this one, -1 if there is none. */
    private static int stateWith(PlaySpans x, int i, int first) {
        for (int k = 0; k < x.states(i); k++) {
            if (x.state(i, k, 1) == first) {
                return k;
            }
        }
        return -1;
    }

    // ---- terms

    private static void belowLow() {
        sentence("With a NOTE below LOW or above HIGH it has no STATES");
        int[] count = {5, 16, 1, 3, 2};
        for (int kind = 0; kind < KINDS; kind++) {
            PlaySpans x = on(kind, ev(0, 0, 5, 62));
            dueBound(x, 3, 62, 0);
            dueStates(x, 0, count[kind]);
            dueBound(x, 3, 63, 62);
            dueStates(x, 0, 0);
            dueNoWay(x, 0);
            dueBound(x, 3, 127, 63);
            dueStates(x, 0, 0);
            dueBound(x, 3, 0, 127);
            dueStates(x, 0, count[kind]);
        }
        PlaySpans chord = on(KEYBOARD, ev(RIGHT, 0, 5, 60, 64, 67));
        dueBound(chord, 3, 60, 0);
        dueStates(chord, 0, 7);
        dueBound(chord, 3, 61, 60);
        dueStates(chord, 0, 0);
        PlaySpans highest = on(STICKS, ev(0, 0, 5, 127));
        dueBound(highest, 3, 127, 0);
        dueStates(highest, 0, 2);
    }

    private static void aboveHigh() {
        sentence("With a NOTE below LOW or above HIGH it has no STATES");
        int[] count = {5, 16, 1, 3, 2};
        for (int kind = 0; kind < KINDS; kind++) {
            PlaySpans x = on(kind, ev(0, 0, 5, 62));
            dueBound(x, 4, 62, 127);
            dueStates(x, 0, count[kind]);
            dueBound(x, 4, 61, 62);
            dueStates(x, 0, 0);
            dueNoWay(x, 0);
            dueBound(x, 4, 0, 61);
            dueStates(x, 0, 0);
            dueBound(x, 4, 127, 0);
            dueStates(x, 0, count[kind]);
        }
        PlaySpans chord = on(KEYBOARD, ev(RIGHT, 0, 5, 60, 64, 67));
        dueBound(chord, 4, 67, 127);
        dueStates(chord, 0, 7);
        dueBound(chord, 4, 66, 67);
        dueStates(chord, 0, 0);
        PlaySpans two = on(STICKS, ev(0, 0, 5, 60, 70));
        dueBound(two, 4, 70, 127);
        dueStates(two, 0, 1);
        dueBound(two, 4, 69, 70);
        dueStates(two, 0, 0);
        PlaySpans lowest = on(STICKS, ev(0, 0, 5, 0));
        dueBound(lowest, 4, 0, 127);
        dueStates(lowest, 0, 2);
    }

    private static void withoutStatesOnlyItself() {
        sentence("With a NOTE below LOW or above HIGH it has no STATES");
        PlaySpans sticks = on(STICKS, ev(0, 0, 5, 60), ev(0, 90, 5, 80), ev(0, 180, 5, 60));
        dueBound(sticks, 4, 79, 127);
        dueStates(sticks, 0, 2);
        dueStates(sticks, 1, 0);
        dueStates(sticks, 2, 6);
        dueNoWay(sticks, 1);
        PlaySpans wind = on(WIND, ev(0, 0, 5, 60), ev(0, 90, 5, 80), ev(0, 180, 5, 60));
        dueBound(wind, 4, 79, 127);
        dueStates(wind, 1, 0);
        dueStates(wind, 2, 3);
        dueNoWay(wind, 1);
        // an open STRING is no NOTE
        PlaySpans strings = on(STRINGS, ev(0, 0, 5, 59));
        dueBound(strings, 3, 59, 0);
        dueStates(strings, 0, 4);
    }

    // ---- keyboard

    /** Two FINGERS as bits; the least and the most that their PITCHES lie apart for nothing; the most at all. */
    private static final int[][] PAIRS = {
        {0b00011, 1, 4, 7}, {0b00101, 2, 6, 10}, {0b01001, 3, 8, 13}, {0b10001, 4, 10, 16},
        {0b00110, 1, 2, 3}, {0b01010, 2, 4, 6}, {0b10010, 3, 6, 9},
        {0b01100, 1, 2, 3}, {0b10100, 2, 4, 6}, {0b11000, 1, 2, 3}};

    private static void keyboardOneNote() {
        sentence("A STATE is a set of as many FINGERS (1 .. 5) as there are NOTES, in the order of the numbers, rising");
        for (int hand = LEFT; hand <= RIGHT; hand++) {
            PlaySpans x = on(KEYBOARD, ev(hand, 0, 5, 60), ev(hand, 9, 5, 60, 61), ev(hand, 18, 5, 60, 61, 62));
            dueStates(x, 0, 5);
            dueStates(x, 1, 10);
            dueStates(x, 2, 10);
            int[] bitsOfTwo = {3, 5, 6, 9, 10, 12, 17, 18, 20, 24};
            int[] bitsOfThree = {7, 11, 13, 14, 19, 21, 22, 25, 26, 28};
            for (int k = 0; k < 10; k++) {
                due("one FINGER", x.state(0, k, 1), k < 5 ? 1 << k : BAD);
                due("two FINGERS", x.state(1, k, 1), bitsOfTwo[k]);
                due("three FINGERS", x.state(2, k, 1), bitsOfThree[k]);
            }
        }
    }

    private static void keyboardReach() {
        sentence("there is no such STATE, if s is above 3 d + 4 e for some");
        for (int hand = LEFT; hand <= RIGHT; hand++) {
            for (int[] pair : PAIRS) {
                PlaySpans x = on(KEYBOARD, ev(hand, 0, 5, 60, 60 + pair[3]), ev(hand, 9, 5, 60, 61 + pair[3]));
                due(pair[0] + " just reaches", stateWith(x, 0, pair[0]) < 0 ? 0 : 1, 1);
                due(pair[0] + " does not", stateWith(x, 1, pair[0]), -1);
            }
            PlaySpans widest = on(KEYBOARD, ev(hand, 0, 5, 60, 76), ev(hand, 9, 5, 60, 77), ev(hand, 18, 5, 0, 127));
            dueStates(widest, 0, 1);
            dueStates(widest, 1, 0);
            dueStates(widest, 2, 0);
        }
    }

    private static void keyboardPrice() {
        sentence("its PRICE is all that s is above 2 d + 2 e, or below d, together");
        for (int hand = LEFT; hand <= RIGHT; hand++) {
            for (int[] pair : PAIRS) {
                for (int s = 1; s <= pair[3]; s++) {
                    PlaySpans x = on(KEYBOARD, ev(hand, 0, 5, 60, 60 + s));
                    int price = s < pair[1] ? pair[1] - s : s > pair[2] ? s - pair[2] : 0;
                    due(pair[0] + " over " + s, x.state(0, stateWith(x, 0, pair[0]), 0), price);
                }
            }
        }
    }

    private static void keyboardThreeNotes() {
        sentence("For two neighbours among the NOTES");
        // FINGERS 1, 2, 3: 7 and 3 are the most
        PlaySpans right = on(KEYBOARD, ev(RIGHT, 0, 5, 60, 67, 70), ev(RIGHT, 9, 5, 60, 68, 71),
                ev(RIGHT, 18, 5, 60, 67, 71), ev(RIGHT, 27, 5, 60, 63, 70));
        dueState(right, 0, 0, 3 + 1, 7, 60);
        due("the lower two too far apart", stateWith(right, 1, 7), -1);
        due("the upper two too far apart", stateWith(right, 2, 7), -1);
        due("not the left's", stateWith(right, 3, 7), -1);
        PlaySpans left = on(KEYBOARD, ev(LEFT, 0, 5, 60, 63, 70), ev(LEFT, 9, 5, 60, 63, 71),
                ev(LEFT, 18, 5, 60, 64, 71), ev(LEFT, 27, 5, 60, 67, 70));
        dueState(left, 0, 0, 1 + 3, 7, 70);
        due("the upper two too far apart", stateWith(left, 1, 7), -1);
        due("the lower two too far apart", stateWith(left, 2, 7), -1);
        due("not the right's", stateWith(left, 3, 7), -1);
        // FINGERS 1, 3, 5 over 1 and 1: each 1 below
        PlaySpans near = on(KEYBOARD, ev(RIGHT, 0, 5, 60, 61, 62));
        dueState(near, 0, stateWith(near, 0, 0b10101), 1 + 1, 0b10101, 60);
        // FINGERS 1, 2, 5 over 5 and 1: 1 above and 2 below
        PlaySpans bothSides = on(KEYBOARD, ev(RIGHT, 0, 5, 60, 65, 66));
        dueState(bothSides, 0, stateWith(bothSides, 0, 0b10011), 1 + 2, 0b10011, 60);
        dueStates(on(KEYBOARD, ev(RIGHT, 0, 5, 0, 64, 127)), 0, 0);
    }

    private static void keyboardHandsMirror() {
        sentence("RIGHT: lower NOTES have lower FINGERS, LEFT: higher NOTES have lower ones");
        // a fourth and a tone: FINGERS 1, 2, 3 fit the way round in which FINGER 1 has the fourth
        PlaySpans x = on(KEYBOARD, ev(RIGHT, 0, 5, 60, 65, 67), ev(LEFT, 0, 5, 60, 65, 67), ev(RIGHT, 9, 5, 60, 62, 67),
                ev(LEFT, 9, 5, 60, 62, 67));
        dueState(x, 0, 0, 1, 7, 60);
        due("left, the fourth below", stateWith(x, 1, 7), -1);
        due("right, the fourth above", stateWith(x, 2, 7), -1);
        dueState(x, 3, 0, 1, 7, 67);
    }

    private static void keyboardPlaceOfChord() {
        sentence("A STATE's PLACE: RIGHT the lowest PITCH less 2 (its FINGER - 1); LEFT the highest PITCH and 2 (its FINGER - 1)");
        PlaySpans x = on(KEYBOARD, ev(RIGHT, 0, 5, 60, 61, 62), ev(LEFT, 0, 5, 60, 61, 62), ev(RIGHT, 9, 5, 0, 1),
                ev(LEFT, 9, 5, 126, 127));
        int[] lowestFinger = {1, 1, 1, 2, 1, 1, 2, 1, 2, 3};
        for (int k = 0; k < 10; k++) {
            due("right, three", x.state(0, k, 2), 60 - 2 * (lowestFinger[k] - 1));
            due("left, three", x.state(1, k, 2), 62 + 2 * (lowestFinger[k] - 1));
        }
        due("right, the lowest", x.state(2, 9, 2), -6);
        due("left, the highest", x.state(3, 9, 2), 133);
    }

    private static void keyboardStepInTime() {
        sentence("WAY LONG is how far the two PLACES are apart; there is none, if that times MOVE is above GAP");
        for (int move : new int[] {1, 10, 99, 100}) {
            for (int hand = LEFT; hand <= RIGHT; hand++) {
                // by FINGERS 1 and 2 there are 4 less or more by 2
                PlaySpans up = on(KEYBOARD, ev(hand, 7, 5, 60), ev(hand, 7 + 6 * move, 5, 64));
                dueBound(up, 0, move, 10);
                dueStep(up, 0, hand == RIGHT ? 1 : 0, hand == RIGHT ? 0 : 1, 6);
                PlaySpans down = on(KEYBOARD, ev(hand, 7, 5, 64), ev(hand, 6 + 6 * move, 5, 60));
                dueBound(down, 0, move, 10);
                dueStep(down, 0, hand == RIGHT ? 0 : 1, hand == RIGHT ? 1 : 0, NONE);
            }
        }
        PlaySpans still = on(KEYBOARD, ev(RIGHT, 0, 5, 0), ev(RIGHT, 1, 5, 127));
        dueStep(still, 0, 0, 1, NONE);
        dueBound(still, 0, 0, 10);
        dueStep(still, 0, 0, 1, 125);
        PlaySpans sameSpot = on(KEYBOARD, ev(RIGHT, 0, 5, 60), ev(RIGHT, 1, 5, 62));
        dueBound(sameSpot, 0, 100, 10);
        dueStep(sameSpot, 0, 0, 1, 0);
    }

    private static void keyboardLongestStep() {
        sentence("there is none, if that times MOVE is above GAP; its PRICE is WAY LONG");
        for (int gap = 13499; gap <= 13500; gap++) {
            PlaySpans right = on(KEYBOARD, ev(RIGHT, 0, 5, 0), ev(RIGHT, gap, 5, 127));
            dueBound(right, 0, 100, 10);
            dueStep(right, 0, 4, 0, gap == 13500 ? 135 : NONE);
            PlaySpans left = on(KEYBOARD, ev(LEFT, 0, 5, 127), ev(LEFT, gap, 5, 0));
            dueBound(left, 0, 100, 10);
            dueStep(left, 0, 4, 0, gap == 13500 ? 135 : NONE);
        }
        PlaySpans longest = on(KEYBOARD, ev(RIGHT, 0, 5, 0), ev(RIGHT, 100000, 5, 127));
        dueBound(longest, 0, 100, 10);
        dueStep(longest, 0, 4, 0, 135);
    }

    private static void keyboardSameFinger() {
        sentence("3 more, if both EVENTS have one NOTE, the PITCHES differ, and the FINGER is the same");
        for (int hand = LEFT; hand <= RIGHT; hand++) {
            PlaySpans x = on(KEYBOARD, ev(hand, 0, 5, 60), ev(hand, 100, 5, 61), ev(hand, 200, 5, 61));
            for (int k = 0; k < 5; k++) {
                dueStep(x, 0, k, k, 1 + 3);
                dueStep(x, 1, k, k, 0);
                dueStep(x, 1, k, (k + 1) % 5, k < 4 ? 2 : 8);
            }
            dueStep(x, 0, 0, 1, hand == RIGHT ? 1 : 3);
            PlaySpans two = on(KEYBOARD, ev(hand, 0, 5, 60), ev(hand, 100, 5, 62, 64), ev(hand, 200, 5, 66, 68),
                    ev(hand, 300, 5, 70), ev(hand, 400, 5, 70));
            // to FINGERS 1, 2, from these to these, and from these to FINGER 1
            dueStep(two, 0, 0, 0, hand == RIGHT ? 2 : 4);
            dueStep(two, 1, 0, 0, 4);
            dueStep(two, 2, 0, 0, hand == RIGHT ? 4 : 2);
            dueStep(two, 3, 0, 0, 0);
        }
    }

    // ---- strings

    /** One STRING of open PITCH 50; no PITCH below 127 lies on the others. */
    private static PlaySpans oneString(int... stops) {
        PlaySpans x = new PlaySpans(STRINGS);
        x.bound(6, 50);
        x.bound(7, 127);
        x.bound(8, 127);
        x.bound(9, 127);
        for (int i = 0; i < stops.length; i++) {
            due("event", x.event(0, 9 * i, 5, 50 + stops[i], -1, -1), i);
        }
        return x;
    }

    /** Four STRINGS of open PITCH 50. */
    private static PlaySpans alike(int[]... events) {
        PlaySpans x = on(STRINGS, events);
        for (int what = 6; what < 10; what++) {
            x.bound(what, 50);
        }
        return x;
    }

    private static void stringsStop() {
        sentence("The STOP of a NOTE is its PITCH less the open one of its STRING: 0, or POSITION and 1 .. 4");
        for (int stop = -2; stop <= 17; stop++) {
            PlaySpans x = oneString(stop);
            int lowest = Math.max(0, stop - 4);
            int highest = Math.min(11, stop - 1);
            int count = stop == 0 ? 12 : Math.max(0, highest - lowest + 1);
            dueStates(x, 0, count);
            for (int k = 0; k < count; k++) {
                due("POSITION for STOP " + stop, x.state(0, k, 1), stop == 0 ? k : lowest + k);
                due("t", x.state(0, k, 2), 0);
            }
        }
        dueStates(oneString(-1), 0, 0);
        dueStates(oneString(1), 0, 1);
        dueStates(oneString(4), 0, 4);
        dueStates(oneString(12), 0, 4);
        dueStates(oneString(13), 0, 3);
        dueStates(oneString(15), 0, 1);
        dueStates(oneString(16), 0, 0);
    }

    private static void stringsStopPrice() {
        sentence("PRICE: for each NOTE whose STOP is not 0: 1, and 1 more, if it is POSITION and 4");
        PlaySpans x = oneString(0, 1, 4, 5, 15);
        for (int k = 0; k < 12; k++) {
            dueState(x, 0, k, 0, k, 0);
        }
        dueState(x, 1, 0, 1, 0, 0);
        dueState(x, 2, 0, 2, 0, 0);
        dueState(x, 2, 1, 1, 1, 0);
        dueState(x, 2, 3, 1, 3, 0);
        dueState(x, 3, 0, 2, 1, 0);
        dueState(x, 3, 3, 1, 4, 0);
        dueState(x, 4, 0, 2, 11, 0);
        // open, POSITION and 1, POSITION and 4
        PlaySpans chord = alike(ev(0, 0, 5, 50, 51, 54));
        dueState(chord, 0, 0, 0 + 1 + 2, 0, 0);
    }

    private static void stringsEveryNoteHasAStop() {
        sentence("the NOTES lie, the lowest first, on STRINGS t, t + 1, ..; 0, or POSITION and 1 .. 4");
        dueStates(alike(ev(0, 0, 5, 51, 54)), 0, 3);
        dueStates(alike(ev(0, 0, 5, 51, 55)), 0, 0);
        dueStates(alike(ev(0, 0, 5, 51, 52, 54)), 0, 2);
        dueStates(alike(ev(0, 0, 5, 51, 52, 55)), 0, 0);
        dueStates(alike(ev(0, 0, 5, 49, 52)), 0, 0);
        // an open one goes with any POSITION
        PlaySpans open = alike(ev(0, 0, 5, 50, 65));
        dueStates(open, 0, 3);
        dueState(open, 0, 0, 2, 11, 0);
        dueStates(alike(ev(0, 0, 5, 50, 66)), 0, 0);
        // each NOTE against its own STRING
        PlaySpans own = on(STRINGS, ev(0, 0, 5, 55, 62, 69), ev(0, 9, 5, 54, 62, 69));
        dueState(own, 0, 0, 0, 0, 0);
        dueStates(own, 0, 12);
        dueStates(own, 1, 0);
    }

    private static void stringsOnlyFour() {
        sentence("on STRINGS t, t + 1, .. (0 .. 3)");
        PlaySpans x = alike(ev(0, 0, 5, 51), ev(0, 9, 5, 51, 52), ev(0, 18, 5, 51, 52, 53));
        for (int i = 0; i < 3; i++) {
            int last = 3 - i;
            dueStates(x, i, last + 1);
            for (int t = 0; t <= last; t++) {
                due("t", x.state(i, t, 2), t);
                due("POSITION", x.state(i, t, 1), 0);
            }
            due("beyond the last STRING", x.state(i, last + 1, 2), BAD);
        }
        // nothing lies on a STRING beyond these, whatever its open PITCH would be
        for (int pitch = 0; pitch < 55; pitch++) {
            dueStates(on(STRINGS, ev(0, 0, 5, pitch)), 0, 0);
        }
        for (int open : new int[] {0, 10, 30, 34, 100, 112}) {
            PlaySpans y = on(STRINGS, ev(0, 0, 5, open), ev(0, 9, 5, open, open + 1), ev(0, 18, 5, open, open + 1, open + 2));
            for (int what = 6; what < 10; what++) {
                y.bound(what, open);
            }
            dueStates(y, 0, 48);
            dueStates(y, 1, 3);
            dueStates(y, 2, 2);
        }
    }

    private static void stringsOrder() {
        sentence("By POSITIONS, then by t");
        PlaySpans x = alike(ev(0, 0, 5, 52));
        dueStates(x, 0, 8);
        for (int k = 0; k < 8; k++) {
            dueState(x, 0, k, 1, k / 4, k % 4);
        }
    }

    private static void stringsStepInTime() {
        sentence("WAY LONG is how far the POSITIONS are apart; none, if that times MOVE is above GAP; PRICE 2 WAY LONG and "
                + "how far the lowest STRINGS are apart");
        for (int move : new int[] {1, 10, 100}) {
            for (int late = 0; late <= 1; late++) {
                PlaySpans x = alike(ev(0, 3, 5, 51), ev(0, 3 + 11 * move - late, 5, 65),
                        ev(0, 3 + 22 * move - 2 * late, 5, 51));
                dueBound(x, 0, move, 10);
                dueStep(x, 0, 0, 0, late == 0 ? 22 : NONE);
                dueStep(x, 0, 0, 3, late == 0 ? 25 : NONE);
                dueStep(x, 1, 3, 0, late == 0 ? 25 : NONE);
            }
        }
        PlaySpans near = alike(ev(0, 0, 5, 51), ev(0, 1, 5, 52), ev(0, 2, 5, 65));
        dueStep(near, 0, 0, 3, 3);
        dueStep(near, 0, 3, 0, 3);
        dueStep(near, 0, 0, 4, NONE);
        dueBound(near, 0, 0, 10);
        dueStep(near, 0, 0, 4, 2);
        dueStep(near, 1, 0, 0, 22);
    }

    // ---- wind

    private static void windLung() {
        sentence("the LENGTHS of j .. i together are LUNG at most");
        PlaySpans x = on(WIND, ev(0, 0, 100, 60), ev(0, 500, 200, 60), ev(0, 1000, 50, 60));
        int[] lung = {49, 50, 249, 250, 349, 350};
        int[] count = {0, 1, 1, 2, 2, 3};
        for (int n = 0; n < lung.length; n++) {
            x.bound(1, lung[n]);
            dueStates(x, 2, count[n]);
            for (int k = 0; k < count[n]; k++) {
                dueState(x, 2, k, 0, 3 - count[n] + k, 0);
            }
        }
    }

    private static void windLungTooSmall() {
        sentence("the LENGTHS of j .. i together are LUNG at most");
        PlaySpans x = on(WIND, ev(0, 0, 1, 60), ev(0, 1, 1, 60), ev(0, 2, 2, 60));
        dueBound(x, 1, 1, 400);
        dueStates(x, 0, 1);
        dueStates(x, 1, 1);
        due("only its own BREATH", x.state(1, 0, 1), 1);
        dueStates(x, 2, 0);
        dueBound(x, 2, 0, 30);
        dueNoWay(x, 2);
        PlaySpans longest = on(WIND, ev(0, 0, 1000, 60));
        dueBound(longest, 1, 999, 400);
        dueNoWay(longest, 0);
        dueBound(longest, 1, 1000, 999);
        dueWay(longest, 0, 0);
    }

    private static void windLungAtItsMost() {
        sentence("A STATE of EVENT i is the EVENT j, 0 .. i; By j");
        PlaySpans two = on(WIND, ev(0, 0, 1000, 60), ev(0, 1000, 1000, 60), ev(0, 2000, 1, 60));
        dueBound(two, 1, 2000, 400);
        dueStates(two, 1, 2);
        dueStates(two, 2, 2);
        dueState(two, 2, 0, 0, 1, 0);
        dueState(two, 2, 1, 0, 2, 0);
        PlaySpans many = new PlaySpans(WIND);
        dueBound(many, 1, 2000, 400);
        for (int i = 0; i < 40; i++) {
            due("event", many.event(0, 50 * i, 50, 60, -1, -1), i);
            dueStates(many, i, i + 1);
            due("its own BREATH", many.state(i, i, 1), i);
        }
        dueWay(many, 0, new int[40]);
    }

    private static void windSameBreath() {
        sentence("A STEP is to the same j (PRICE 0), or to j = i + 1");
        PlaySpans x = on(WIND, ev(0, 0, 5, 60), ev(0, 5, 5, 60), ev(0, 10, 5, 60));
        // here is no time to breathe
        dueStep(x, 0, 0, 0, 0);
        dueStep(x, 0, 0, 1, NONE);
        dueStep(x, 1, 1, 1, 0);
        dueStep(x, 1, 1, 0, NONE);
        dueStep(x, 1, 0, 1, NONE);
        dueBound(x, 2, 0, 30);
        dueStep(x, 0, 0, 1, 1);
        dueStep(x, 1, 0, 1, NONE);
        dueStep(x, 1, 1, 0, NONE);
        dueStep(x, 1, 0, 2, 1);
        dueStep(x, 1, 1, 2, 1);
    }

    private static void windRest() {
        sentence("REST is the TIME of that less TIME and LENGTH of i; PRICE 1, and 2 times what REST is below BREATH");
        int[] rest = {0, 1, 28, 29, 30, 31, 1000};
        int[] price = {61, 59, 5, 3, 1, 1, 1};
        for (int n = 0; n < rest.length; n++) {
            PlaySpans x = on(WIND, ev(0, 7, 100, 60), ev(0, 107 + rest[n], 3, 60));
            dueStep(x, 0, 0, 1, price[n]);
            dueBound(x, 2, 0, 30);
            dueStep(x, 0, 0, 1, 1);
        }
    }

    private static void windNoTimeToBreathe() {
        sentence("there is none, if BREATH less REST is LENGTH of i or more");
        // LENGTH, REST, BREATH
        int[][] times = {{30, 0, 30}, {31, 0, 30}, {29, 0, 30}, {1, 29, 30}, {1, 30, 30}, {2, 29, 30}, {1, 0, 0},
            {1, 0, 1}, {200, 0, 200}, {201, 0, 200}, {1, 199, 200}, {1, 200, 200}};
        int[] price = {NONE, 61, NONE, NONE, 1, 3, 1, NONE, NONE, 401, NONE, 1};
        for (int n = 0; n < times.length; n++) {
            PlaySpans x = on(WIND, ev(0, 0, times[n][0], 60), ev(0, times[n][0] + times[n][1], 1, 60));
            dueBound(x, 2, times[n][2], 30);
            dueStep(x, 0, 0, 1, price[n]);
            dueStep(x, 0, 0, 0, 0);
        }
    }

    private static void windLengthIsOfTheOneBefore() {
        sentence("LENGTH of i");
        PlaySpans x = on(WIND, ev(0, 0, 30, 60), ev(0, 30, 31, 60), ev(0, 61, 1, 60));
        dueStep(x, 0, 0, 1, NONE);
        dueStep(x, 1, 0, 2, 61);
        dueBound(x, 1, 60, 400);
        // a BREATH is due ahead of EVENT 1 or none: EVENT 1 has none of EVENT 0's
        dueStates(x, 1, 1);
        dueNoWay(x, 1);
        dueBound(x, 2, 29, 30);
        dueWay(x, 59, 0, 0, 0);
    }

    // ---- slide

    private static void slidePartials() {
        sentence("PITCH and PLACE less BASE is one of 12, 19, 24, 28, 31, 34, 36, 38, 40; By PLACES");
        boolean[] partial = new boolean[300];
        for (int p : new int[] {12, 19, 24, 28, 31, 34, 36, 38, 40}) {
            partial[p] = true;
        }
        for (int base : new int[] {0, 1, 34, 87, 88, 99, 100}) {
            for (int pitch = 0; pitch <= 127; pitch++) {
                PlaySpans x = on(SLIDE, ev(0, 0, 5, pitch));
                x.bound(5, base);
                int k = 0;
                for (int place = 0; place <= 6; place++) {
                    int above = pitch + place - base;
                    if (above >= 0 && partial[above]) {
                        due("base " + base + ", pitch " + pitch, x.state(0, k, 1), place);
                        k++;
                    }
                }
                due("base " + base + ", pitch " + pitch + ": states", x.states(0), k);
            }
        }
    }

    private static void slideLowestAndHighest() {
        sentence("A STATE is a PLACE 0 .. 6");
        PlaySpans x = on(SLIDE, ev(0, 0, 5, 39), ev(0, 10, 5, 40), ev(0, 20, 5, 46), ev(0, 30, 5, 47), ev(0, 40, 5, 74),
                ev(0, 50, 5, 75));
        dueStates(x, 0, 0);
        dueStates(x, 1, 1);
        dueState(x, 1, 0, 2, 6, 0);
        dueStates(x, 2, 1);
        dueState(x, 2, 0, 0, 0, 0);
        dueStates(x, 3, 1);
        dueState(x, 3, 0, 2, 6, 0);
        dueStates(x, 4, 1);
        dueState(x, 4, 0, 0, 0, 0);
        dueStates(x, 5, 0);
        PlaySpans low = on(SLIDE, ev(0, 0, 5, 5), ev(0, 10, 5, 6), ev(0, 20, 5, 40), ev(0, 30, 5, 41));
        dueBound(low, 5, 0, 34);
        dueStates(low, 0, 0);
        dueState(low, 1, 0, 2, 6, 0);
        dueStates(low, 2, 1);
        dueStates(low, 3, 0);
        PlaySpans high = on(SLIDE, ev(0, 0, 5, 105), ev(0, 10, 5, 106), ev(0, 20, 5, 127));
        dueBound(high, 5, 100, 34);
        dueStates(high, 0, 0);
        dueState(high, 1, 0, 2, 6, 0);
        dueState(high, 2, 0, 0, 1, 0);
        dueState(high, 2, 1, 0, 4, 0);
        dueStates(high, 2, 2);
    }

    private static void slidePriceOfPlaces() {
        sentence("PRICE 1 with PLACE 5, 2 with 6, else 0");
        int[] price = {0, 0, 0, 0, 0, 1, 2};
        for (int place = 0; place <= 6; place++) {
            PlaySpans x = on(SLIDE, ev(0, 0, 5, 46 - place));
            dueStates(x, 0, 1);
            dueState(x, 0, 0, price[place], place, 0);
            dueWay(x, price[place], 0);
        }
    }

    private static void slideStepInTime() {
        sentence("WAY LONG is how far the PLACES are apart; none, if that times MOVE is above GAP; PRICE WAY LONG");
        for (int move : new int[] {1, 10, 100}) {
            for (int late = 0; late <= 1; late++) {
                PlaySpans x = on(SLIDE, ev(0, 3, 1, 46), ev(0, 3 + 6 * move - late, 1, 40),
                        ev(0, 3 + 12 * move - 2 * late, 1, 46));
                dueBound(x, 0, move, 10);
                dueStep(x, 0, 0, 0, late == 0 ? 6 : NONE);
                dueStep(x, 1, 0, 0, late == 0 ? 6 : NONE);
            }
        }
        PlaySpans near = on(SLIDE, ev(0, 0, 1, 46), ev(0, 1, 1, 46), ev(0, 2, 1, 40));
        dueBound(near, 0, 100, 10);
        dueStep(near, 0, 0, 0, 0);
        dueStep(near, 1, 0, 0, NONE);
        dueBound(near, 0, 0, 100);
        dueStep(near, 1, 0, 0, 6);
    }

    // ---- sticks

    private static void sticksBothHands() {
        sentence("An EVENT of two NOTES has one STATE: HAND 0 plays the lower one, HAND 1 the higher one");
        PlaySpans x = on(STICKS, ev(0, 0, 5, 0, 127), ev(0, 9, 5, 60), ev(0, 18, 5, 60, 61));
        dueStates(x, 0, 1);
        dueState(x, 0, 0, 0, 2, -1);
        dueStates(x, 2, 1);
        dueState(x, 2, 0, 0, 2, -1);
    }

    private static void sticksOther() {
        sentence("or -1 (never): all EVENTS between that and i (with -1: all before i) have one NOTE; By HANDS, then by OTHER");
        PlaySpans x = on(STICKS, ev(0, 0, 5, 60), ev(0, 9, 5, 60), ev(0, 18, 5, 60), ev(0, 27, 5, 60));
        for (int i = 0; i < 4; i++) {
            dueStates(x, i, 2 * (i + 1));
            for (int k = 0; k < 2 * (i + 1); k++) {
                dueState(x, i, k, 0, k / (i + 1), k % (i + 1) - 1);
            }
        }
    }

    private static void sticksOtherBehindTwoNotes() {
        sentence("all EVENTS between that and i (with -1: all before i) have one NOTE");
        PlaySpans x = on(STICKS, ev(0, 0, 5, 60), ev(0, 9, 5, 50, 70), ev(0, 18, 5, 60), ev(0, 27, 5, 60),
                ev(0, 36, 5, 50, 70), ev(0, 45, 5, 50, 70), ev(0, 54, 5, 60));
        dueStates(x, 2, 2);
        dueState(x, 2, 0, 0, 0, 1);
        dueState(x, 2, 1, 0, 1, 1);
        dueStates(x, 3, 4);
        dueState(x, 3, 0, 0, 0, 1);
        dueState(x, 3, 1, 0, 0, 2);
        dueState(x, 3, 2, 0, 1, 1);
        dueState(x, 3, 3, 0, 1, 2);
        dueStates(x, 6, 2);
        dueState(x, 6, 0, 0, 0, 5);
        dueState(x, 6, 1, 0, 1, 5);
    }

    private static void sticksCrossing() {
        sentence("with OTHER not -1: 4, if by HAND 0 it is above, by HAND 1 below the PITCH that the other HAND played in OTHER");
        int[] pitch = {59, 60, 61, 0, 127};
        int[] left = {0, 0, 4, 0, 4};
        int[] right = {4, 0, 0, 4, 0};
        for (int n = 0; n < pitch.length; n++) {
            PlaySpans x = on(STICKS, ev(0, 0, 5, 60), ev(0, 9, 5, pitch[n]));
            dueState(x, 1, 0, 0, 0, -1);
            dueState(x, 1, 1, left[n], 0, 0);
            dueState(x, 1, 2, 0, 1, -1);
            dueState(x, 1, 3, right[n], 1, 0);
        }
        // the PITCH in OTHER, not that of the EVENT before
        PlaySpans y = on(STICKS, ev(0, 0, 5, 70), ev(0, 9, 5, 50), ev(0, 18, 5, 60));
        dueState(y, 2, 1, 0, 0, 0);
        dueState(y, 2, 2, 4, 0, 1);
        dueState(y, 2, 4, 4, 1, 0);
        dueState(y, 2, 5, 0, 1, 1);
    }

    private static void sticksCrossingTwoNotes() {
        sentence("What a HAND played in an EVENT of two NOTES is its own one");
        int[] pitch = {49, 50, 51, 69, 70, 71};
        int[] left = {0, 0, 0, 0, 0, 4};
        int[] right = {4, 0, 0, 0, 0, 0};
        for (int n = 0; n < pitch.length; n++) {
            PlaySpans x = on(STICKS, ev(0, 0, 5, 50, 70), ev(0, 9, 5, pitch[n]));
            dueState(x, 1, 0, left[n], 0, 0);
            dueState(x, 1, 1, right[n], 1, 0);
        }
    }

    private static void sticksStepInTime() {
        sentence("WAY LONG is how far its two PITCHES are apart; there is none, if for one of them that times MOVE is above the "
                + "TIME of i + 1 less that of its EVENT");
        for (int move : new int[] {1, 10, 100}) {
            for (int late = 0; late <= 1; late++) {
                PlaySpans one = on(STICKS, ev(0, 3, 5, 60), ev(0, 3 + 4 * move - late, 5, 64));
                dueBound(one, 0, move, 10);
                dueStep(one, 0, 0, 0, late == 0 ? 6 : NONE);
                dueStep(one, 0, 1, 2, late == 0 ? 6 : NONE);
                PlaySpans down = on(STICKS, ev(0, 3, 5, 60, 70), ev(0, 3 + 4 * move - late, 5, 56));
                dueBound(down, 0, move, 10);
                dueStep(down, 0, 0, 0, late == 0 ? 4 : NONE);
                dueStep(down, 0, 0, 1, NONE);
                PlaySpans two = on(STICKS, ev(0, 3, 5, 60), ev(0, 3 + 4 * move - late, 5, 56, 64));
                dueBound(two, 0, move, 10);
                dueStep(two, 0, 0, 0, late == 0 ? 4 : NONE);
                dueStep(two, 0, 1, 0, late == 0 ? 4 : NONE);
            }
        }
        PlaySpans widest = on(STICKS, ev(0, 0, 5, 0), ev(0, 1, 5, 127));
        dueStep(widest, 0, 0, 0, NONE);
        dueBound(widest, 0, 0, 10);
        dueStep(widest, 0, 0, 0, 129);
    }

    private static void sticksStepFromItsOwnEvent() {
        sentence("each HAND that plays then played last in an EVENT as the STATE of i tells (i, or its OTHER)");
        for (int late = 0; late <= 1; late++) {
            // right, left, right again: 60 to 64 from EVENT 0
            PlaySpans x = on(STICKS, ev(0, 0, 5, 60), ev(0, 30, 5, 50), ev(0, 40 - late, 5, 64));
            dueStep(x, 1, 1, 5, late == 0 ? 4 : NONE);
            // right, left, both: 60 to 64 from EVENT 0, 50 to 49 from EVENT 1
            PlaySpans both = on(STICKS, ev(0, 0, 5, 60), ev(0, 25, 5, 50), ev(0, 40 - late, 5, 49, 64));
            dueStep(both, 1, 1, 0, late == 0 ? 5 : NONE);
            PlaySpans near = on(STICKS, ev(0, 0, 5, 60), ev(0, 30, 5, 50), ev(0, 40 - late, 5, 49, 61));
            dueStep(near, 1, 1, 0, late == 0 ? 2 : NONE);
        }
    }

    private static void sticksNever() {
        sentence("perhaps never; WAY LONG (0: never)");
        PlaySpans x = on(STICKS, ev(0, 0, 5, 0), ev(0, 1, 5, 127), ev(0, 2, 5, 0, 127));
        dueBound(x, 0, 100, 10);
        dueStep(x, 0, 0, 3, 0);
        dueStep(x, 0, 1, 1, 0);
        // the right played 127 alone, the left never
        dueStep(x, 1, 2, 0, 0);
        // the left played 0 in EVENT 0
        dueStep(x, 1, 3, 0, 0);
        // the left played 127 alone
        dueStep(x, 1, 0, 0, NONE);
    }

    private static void sticksSameHandAgain() {
        sentence("2 for one that played in i with one NOTE and plays in i + 1 with one NOTE");
        PlaySpans x = on(STICKS, ev(0, 0, 5, 60), ev(0, 100, 5, 60), ev(0, 200, 5, 60, 61), ev(0, 300, 5, 60, 61),
                ev(0, 400, 5, 60));
        dueStep(x, 0, 0, 0, 2);
        dueStep(x, 0, 1, 2, 2);
        dueStep(x, 0, 0, 3, 0);
        dueStep(x, 0, 1, 1, 0);
        dueStep(x, 1, 0, 0, 0);
        dueStep(x, 1, 2, 0, 1);
        dueStep(x, 2, 0, 0, 0);
        dueStep(x, 3, 0, 0, 0);
        dueStep(x, 3, 0, 1, 1);
    }

    private static void sticksOtherMustBeSo() {
        sentence("the other HAND must have played last in OTHER of the STATE of i + 1 (there is a STEP only so)");
        PlaySpans x = on(STICKS, ev(0, 0, 5, 60), ev(0, 100, 5, 60), ev(0, 200, 5, 60));
        // by the STATES of EVENT 1 (left or right; the other never, or in EVENT 0): where each HAND played last
        int[][] last = {{1, -1}, {1, 0}, {-1, 1}, {0, 1}};
        for (int k = 0; k < 4; k++) {
            for (int l = 0; l < 6; l++) {
                int hand = l / 3;
                int other = l % 3 - 1;
                int price = last[k][hand] == 1 ? 2 : 0;
                dueStep(x, 1, k, l, last[k][1 - hand] == other ? price : NONE);
            }
        }
        PlaySpans two = on(STICKS, ev(0, 0, 5, 60, 61), ev(0, 100, 5, 60), ev(0, 200, 5, 60));
        dueStep(two, 0, 0, 0, 0);
        dueStep(two, 0, 0, 1, 1);
        // EVENT 1 by the left, the right in EVENT 0
        dueStep(two, 1, 0, 0, 2);
        dueStep(two, 1, 0, 1, NONE);
        dueStep(two, 1, 0, 2, NONE);
        dueStep(two, 1, 0, 3, 1);
    }

    private static void sticksBothToBoth() {
        sentence("PRICE all WAYS LONG");
        for (int late = 0; late <= 1; late++) {
            PlaySpans right = on(STICKS, ev(0, 0, 5, 50, 60), ev(0, 40 - late, 5, 53, 64));
            dueStep(right, 0, 0, 0, late == 0 ? 7 : NONE);
            PlaySpans left = on(STICKS, ev(0, 0, 5, 50, 60), ev(0, 40 - late, 5, 54, 57));
            dueStep(left, 0, 0, 0, late == 0 ? 7 : NONE);
        }
        PlaySpans far = on(STICKS, ev(0, 0, 5, 0, 1), ev(0, 1, 5, 126, 127));
        dueStep(far, 0, 0, 0, NONE);
        dueBound(far, 0, 0, 10);
        dueWay(far, 252, 0, 0);
    }
}
