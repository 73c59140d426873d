/**
 * Each sentence of the document that names a boundary case has a method of its own here, which begins by
 * quoting it. No object is used for more than 512 calls, because the document promises nothing beyond.
 */
public final class EdgesTest {
    private static final int NONE = -1;
    private static final int FULL = -2;
    private static final int MIN = Integer.MIN_VALUE;
    private static final int MAX = Integer.MAX_VALUE;

    // Beside the first number refused on each side stand those that a cast to byte or short, a mask or a
    // multiplication by twelve would bring back into the range (12 * 357913942 is 8 in an int).
    private static final int[] NO_LISTS = {-1, 2, 3, -2, 256, 257, 65536, 65537, 357913942, MIN, MIN + 1, MAX};
    private static final int[] NO_NUMBERS = {-1, 12, 13, 16, 23, 24, -12, 32, 256, 65536, MIN, MAX};
    private static final int[] NO_KEYS = {-1, 8, 9, -8, 256, 65536, MIN, MAX};
    private static final int[] NO_SCORES = {-1, 1001, 1002, -1000, 65536, MIN, MAX};
    private static final int[] NO_WEIGHTS = {-1, 10, 11, -9, 16, 256, 65536, MIN, MAX};

    private static String sentence = "";
    private static int wrong = 0;

    private interface Call {
        Object on(BestPairs x);
    }

    private interface World {
        BestPairs make();
    }

    // Every entry of the crowded worlds is in a pair, so that a changed key would be seen too.
    private static final World[] WORLDS = {
        BestPairs::new,
        () -> crowded(12, 8, 5),
        () -> crowded(8, 12, 0),
        () -> crowded(12, 12, 7),
        () -> crowded(12, 12, 21),
    };

    public static void main(String[] args) {
        terms();
        changingCalls();
        cursorCalls();
        askingCalls();
        System.out.println(wrong == 0 ? "all answers are as due" : wrong + " answers are not as due");
        if (wrong != 0) {
            System.exit(1);
        }
    }

    private static void terms() {
        atMost512Calls();
        listsAre0And1();
        numbersAre0To11();
        keysAre0To7();
        scoresAre0To1000();
        weightsAre0To9();
        valueOfAPair();
        greaterValueFirst();
        equalValuesLesserLFirst();
        equalValuesAndLLesserRFirst();
        cursorStandsBeforeTheFirstPairAtFirst();
        cursorIsPutBackByEnter();
        cursorIsPutBackByRemove();
        cursorIsPutBackByRescore();
        cursorIsPutBackByWeigh();
        cursorIsPutBackWhenNothingBecomesDifferent();
        cursorIsNotPutBackByARefusedCall();
        cursorIsNotPutBackByAsking();
        newObjectHasTwoEmptyLists();
        newObjectHasBothWeights1();
    }

    private static void changingCalls() {
        enterAnswersTheLeastFreeNumber();
        enterRefusesAWrongList();
        enterRefusesAWrongKey();
        enterRefusesAWrongScore();
        enterRefusesAtTwelveEntries();
        enterTestsNoneBeforeFull();
        removeTakesAway();
        removeRefusesWhenThereIsNone();
        rescoreTakesTheLeastAndTheGreatest();
        rescoreRefusesWhenThereIsNoSuchEntry();
        rescoreRefusesAWrongScore();
        weighTakesTheLeastAndTheGreatest();
        weighRefusesAWrongList();
        weighRefusesAWrongWeight();
    }

    private static void cursorCalls() {
        nextAnswersThePair();
        nextAtTheEnd();
        nextWithoutAnyPair();
        passedFromNoneToAll();
        lastValueWhenNoneIsPassed();
        lastValueAtTheEnd();
        rewindFromEverywhere();
    }

    private static void askingCalls() {
        entriesOfEmptyAndFull();
        entriesOfAWrongList();
        scoreOfTheEdges();
        scoreWhenThereIsNone();
        pairAtFirstAndLast();
        pairAtWhenThereAreNotSoMany();
        pairAtBelow0();
        pairAtDoesNotMoveTheCursor();
        pairsFromNoneToAll();
        atLeastCountsTheEqualOnes();
        atLeastOfEverythingAndNothing();
        bestPlaceFirstAndLast();
        bestPlaceWhenThereIsNoSuchEntry();
        bestPlaceWhenInNoPair();
    }

    private static void sentence(String quoted) {
        sentence = quoted;
    }

    private static void due(String what, Object got, Object want) {
        if (!got.equals(want)) {
            wrong++;
            System.out.println("\"" + sentence + "\": " + what + " answered " + got + ", due is " + want);
        }
    }

    /** In each world the call answers as due and leaves the object like one that was never called so. */
    private static void dueRefused(String what, Call call, Object want) {
        for (int n = 0; n < WORLDS.length; n++) {
            BestPairs x = WORLDS[n].make();
            due(what + " in world " + n, call.on(x), want);
            due("all after " + what + " in world " + n, picture(x), picture(WORLDS[n].make()));
        }
    }

    /** Everything that can be asked; what moves the cursor comes last. */
    private static String picture(BestPairs x) {
        StringBuilder seen = new StringBuilder();
        seen.append("passed ").append(x.passed()).append(" last ").append(x.lastValue());
        for (int list = 0; list < 2; list++) {
            seen.append(" entries ").append(x.entries(list));
            for (int i = 0; i < 12; i++) {
                seen.append(' ').append(x.score(list, i)).append('@').append(x.bestPlace(list, i));
            }
        }
        int pairs = x.pairs();
        seen.append(" pairs ").append(pairs);
        for (int k = 0; k <= pairs; k++) {
            seen.append(' ').append(x.pairAt(k));
        }
        walkToTheEnd(x, seen);
        x.rewind();
        walkToTheEnd(x, seen);
        return seen.toString();
    }

    private static void walkToTheEnd(BestPairs x, StringBuilder seen) {
        seen.append(" walk");
        int pair = x.next();
        for (int n = 0; n < 144 && pair != NONE; n++) {
            seen.append(' ').append(pair).append('=').append(x.lastValue());
            pair = x.next();
        }
        seen.append(" passed ").append(x.passed());
    }

    private static BestPairs crowded(int inList0, int inList1, int nexts) {
        BestPairs x = new BestPairs();
        for (int i = 0; i < inList0; i++) {
            x.enter(0, i % 8, 10 * i);
        }
        for (int i = 0; i < inList1; i++) {
            x.enter(1, i % 8, 1000 - 7 * i);
        }
        x.weigh(0, 3);
        x.weigh(1, 2);
        for (int n = 0; n < nexts; n++) {
            x.next();
        }
        return x;
    }

    /** 144 pairs of equal value, so that pair 16 * l + r stands at place 12 * l + r. */
    private static BestPairs allEqual() {
        BestPairs x = new BestPairs();
        for (int i = 0; i < 12; i++) {
            x.enter(0, 4, 500);
            x.enter(1, 4, 500);
        }
        return x;
    }

    private static BestPairs onePair(int key, int score0, int score1) {
        BestPairs x = new BestPairs();
        x.enter(0, key, score0);
        x.enter(1, key, score1);
        return x;
    }

    private static int firstValue(BestPairs x) {
        x.rewind();
        x.next();
        return x.lastValue();
    }

    /** Pairs in order: 1 (value 60), 0 (50), 17 (50), 16 (40). */
    private static BestPairs fourPairs(int nexts) {
        BestPairs x = new BestPairs();
        x.enter(0, 2, 30);
        x.enter(0, 2, 20);
        x.enter(1, 2, 20);
        x.enter(1, 2, 30);
        for (int n = 0; n < nexts; n++) {
            x.next();
        }
        return x;
    }

    private static void atMost512Calls() {
        sentence("An object is used for at most 512 calls after it has been made");
        Call[] last = {
            x -> x.enter(0, 4, 1000), x -> x.remove(0, 11), x -> x.rescore(1, 11, 1000), x -> x.weigh(0, 9),
            x -> x.entries(1), x -> x.score(0, 11), x -> x.next(), x -> x.passed(), x -> x.lastValue(),
            x -> x.pairAt(143), x -> x.pairs(), x -> x.atLeast(1000), x -> x.bestPlace(0, 11),
        };
        Object[] want = {FULL, true, true, true, 4095, 500, NONE, 144, 1000, 187, 144, 144, 132};
        for (int n = 0; n < last.length; n++) {
            BestPairs x = used511Times();
            due("call 512, kind " + n, last[n].on(x), want[n]);
        }
    }

    /** 24 calls in allEqual, 342 that change, one rewind and 144 of next, up to the last pair. */
    private static BestPairs used511Times() {
        BestPairs x = allEqual();
        for (int n = 0; n < 171; n++) {
            due("remove, time " + n, x.remove(n % 2, n % 12), true);
            due("enter, time " + n, x.enter(n % 2, 4, 500), n % 12);
        }
        x.rewind();
        for (int k = 0; k < 144; k++) {
            due("next over place " + k, x.next(), 16 * (k / 12) + k % 12);
        }
        return x;
    }

    private static void listsAre0And1() {
        sentence("There are two lists, 0 and 1");
        BestPairs x = new BestPairs();
        due("enter(0, 0, 3)", x.enter(0, 0, 3), 0);
        due("score(1, 0)", x.score(1, 0), NONE);
        due("enter(1, 0, 4)", x.enter(1, 0, 4), 0);
        due("score(0, 0)", x.score(0, 0), 3);
        due("score(1, 0)", x.score(1, 0), 4);
        due("remove(0, 0)", x.remove(0, 0), true);
        due("entries(0)", x.entries(0), 0);
        due("entries(1)", x.entries(1), 1);
    }

    private static void numbersAre0To11() {
        sentence("An ENTRY of a list has a number 0 .. 11");
        BestPairs x = new BestPairs();
        for (int i = 0; i < 12; i++) {
            due("enter into list 0", x.enter(0, 0, 100 + i), i);
            due("enter into list 1", x.enter(1, 0, 200 + i), i);
        }
        for (int i = 0; i < 12; i++) {
            due("score(0, " + i + ")", x.score(0, i), 100 + i);
            due("score(1, " + i + ")", x.score(1, i), 200 + i);
        }
        for (int list = 0; list < 2; list++) {
            due("enter of a thirteenth", x.enter(list, 0, 300), FULL);
            due("entries without number 12", x.entries(list), 4095);
            due("score(" + list + ", 12)", x.score(list, 12), NONE);
        }
    }

    private static void keysAre0To7() {
        sentence("a key 0 .. 7 .. an entry r of list 1 that has the same key");
        for (int left = 0; left < 8; left++) {
            for (int right = 0; right < 8; right++) {
                BestPairs x = new BestPairs();
                due("enter(0, " + left + ", 0)", x.enter(0, left, 0), 0);
                due("enter(1, " + right + ", 0)", x.enter(1, right, 0), 0);
                due("pairs() of keys " + left + " and " + right, x.pairs(), left == right ? 1 : 0);
            }
        }
    }

    private static void scoresAre0To1000() {
        sentence("a score 0 .. 1000");
        for (int list = 0; list < 2; list++) {
            BestPairs x = new BestPairs();
            due("enter score 0", x.enter(list, 0, 0), 0);
            due("enter score 1000", x.enter(list, 0, 1000), 1);
            due("score 0", x.score(list, 0), 0);
            due("score 1000", x.score(list, 1), 1000);
        }
    }

    private static void weightsAre0To9() {
        sentence("There is a weight for each list, 0 to 9");
        for (int w = 0; w <= 9; w++) {
            BestPairs x = onePair(0, 1000, 1);
            due("weigh(0, " + w + ")", x.weigh(0, w), true);
            due("value", firstValue(x), 1000 * w + 1);
            BestPairs y = onePair(0, 1, 1000);
            due("weigh(1, " + w + ")", y.weigh(1, w), true);
            due("value", firstValue(y), 1 + 1000 * w);
        }
    }

    private static void valueOfAPair() {
        sentence("the VALUE of a pair is weight 0 * score of l + weight 1 * score of r");
        BestPairs x = onePair(7, 1000, 1000);
        x.weigh(0, 9);
        x.weigh(1, 9);
        due("the greatest value", firstValue(x), 18000);
        x.weigh(0, 0);
        x.weigh(1, 0);
        due("both weights 0", firstValue(x), 0);
        BestPairs y = onePair(7, 0, 0);
        due("both scores 0", firstValue(y), 0);
        BestPairs z = onePair(7, 1000, 1);
        z.weigh(0, 2);
        z.weigh(1, 3);
        due("each weight with its own list", firstValue(z), 2003);
    }

    private static void greaterValueFirst() {
        sentence("a pair goes before another one when its value is greater");
        BestPairs x = allEqual();
        x.rescore(0, 11, 501);
        for (int k = 0; k < 12; k++) {
            due("pairAt(" + k + "), greater by 1", x.pairAt(k), 16 * 11 + k);
        }
        due("pairAt(12)", x.pairAt(12), 0);
        x.rescore(0, 11, 499);
        due("pairAt(131), before those less by 1", x.pairAt(131), 16 * 10 + 11);
        due("pairAt(132), less by 1", x.pairAt(132), 16 * 11);
    }

    private static void equalValuesLesserLFirst() {
        sentence("or the values are equal and its l has the lesser number");
        BestPairs x = fourPairs(0);
        due("pairAt(1): l is 0", x.pairAt(1), 0);
        due("pairAt(2): l is 1", x.pairAt(2), 17);
        BestPairs y = new BestPairs();
        y.enter(0, 1, 10);
        y.enter(0, 5, 20);
        y.enter(1, 5, 10);
        y.enter(1, 1, 20);
        due("the lesser l, though its r is greater", y.pairAt(0), 1);
        due("the greater l", y.pairAt(1), 16);
    }

    private static void equalValuesAndLLesserRFirst() {
        sentence("or these are equal too and its r has the lesser number");
        BestPairs x = allEqual();
        for (int k = 0; k < 144; k++) {
            due("pairAt(" + k + ")", x.pairAt(k), 16 * (k / 12) + k % 12);
        }
        BestPairs y = new BestPairs();
        y.enter(0, 3, 1);
        y.enter(1, 3, 8);
        y.enter(1, 3, 2);
        y.weigh(1, 0);
        due("made equal by weight 0", y.pairAt(0), 0);
        due("made equal by weight 0", y.pairAt(1), 1);
    }

    private static void cursorStandsBeforeTheFirstPairAtFirst() {
        sentence("A CURSOR stands before the first pair of the ranking at first");
        due("passed() of a new object", new BestPairs().passed(), 0);
        due("lastValue() of a new object", new BestPairs().lastValue(), NONE);
        BestPairs x = onePair(0, 1, 2);
        due("passed()", x.passed(), 0);
        due("next()", x.next(), 0);
    }

    private static void duePutBack(String what, BestPairs x) {
        due("passed() after " + what, x.passed(), 0);
        due("lastValue() after " + what, x.lastValue(), NONE);
        int first = x.pairAt(0);
        due("next() after " + what, x.next(), first);
    }

    /** The cursor is put back from behind each of the four pairs, and from the end as next() found it. */
    private static void dueBackFromEverywhere(String what, Call call, Object want) {
        for (int nexts = 0; nexts <= 5; nexts++) {
            BestPairs x = fourPairs(nexts);
            due(what, call.on(x), want);
            duePutBack(what + " and " + nexts + " times next()", x);
        }
    }

    private static void cursorIsPutBackByEnter() {
        sentence("put back whenever an entry is changed by a call of enter that answers a number of 0 or more");
        dueBackFromEverywhere("enter(0, 2, 0)", x -> x.enter(0, 2, 0), 2);
        dueBackFromEverywhere("enter(1, 2, 1000)", x -> x.enter(1, 2, 1000), 2);
        dueBackFromEverywhere("enter(0, 7, 0), in no pair", x -> x.enter(0, 7, 0), 2);
        dueBackFromEverywhere("enter(1, 7, 0), in no pair", x -> x.enter(1, 7, 0), 2);
        for (int list = 0; list < 2; list++) {
            for (int i = 0; i < 12; i += 11) {
                BestPairs x = crowded(12, 12, 0);
                x.remove(list, i);
                x.next();
                due("enter as number " + i, x.enter(list, 0, 0), i);
                duePutBack("enter as number " + i + " of list " + list, x);
            }
        }
    }

    private static void cursorIsPutBackByRemove() {
        sentence("put back whenever an entry is changed by a call of remove that answers true");
        dueBackFromEverywhere("remove(0, 0)", x -> x.remove(0, 0), true);
        dueBackFromEverywhere("remove(1, 1)", x -> x.remove(1, 1), true);
        for (int list = 0; list < 2; list++) {
            BestPairs x = fourPairs(0);
            x.enter(list, 7, 0);
            x.next();
            due("remove of an entry in no pair", x.remove(list, 2), true);
            duePutBack("remove of an entry in no pair", x);
        }
        BestPairs y = onePair(0, 1, 1);
        y.next();
        due("remove that leaves no pair", y.remove(0, 0), true);
        duePutBack("remove that leaves no pair", y);
    }

    private static void cursorIsPutBackByRescore() {
        sentence("put back whenever an entry is changed by a call of rescore that answers true");
        dueBackFromEverywhere("rescore(0, 1, 1000)", x -> x.rescore(0, 1, 1000), true);
        dueBackFromEverywhere("rescore(1, 1, 0)", x -> x.rescore(1, 1, 0), true);
        for (int list = 0; list < 2; list++) {
            BestPairs x = fourPairs(0);
            x.enter(list, 7, 0);
            x.next();
            due("rescore of an entry in no pair", x.rescore(list, 2, 9), true);
            duePutBack("rescore of an entry in no pair", x);
        }
    }

    private static void cursorIsPutBackByWeigh() {
        sentence("put back whenever a weight is changed by a call of weigh that answers true");
        dueBackFromEverywhere("weigh(0, 9)", x -> x.weigh(0, 9), true);
        dueBackFromEverywhere("weigh(1, 9)", x -> x.weigh(1, 9), true);
        dueBackFromEverywhere("weigh(0, 0)", x -> x.weigh(0, 0), true);
        dueBackFromEverywhere("weigh(1, 0)", x -> x.weigh(1, 0), true);
    }

    private static void cursorIsPutBackWhenNothingBecomesDifferent() {
        sentence("also when nothing becomes different");
        dueBackFromEverywhere("rescore(0, 0, 30), the same", x -> x.rescore(0, 0, 30), true);
        dueBackFromEverywhere("rescore(1, 0, 20), the same", x -> x.rescore(1, 0, 20), true);
        dueBackFromEverywhere("weigh(0, 1), the same", x -> x.weigh(0, 1), true);
        dueBackFromEverywhere("weigh(1, 1), the same", x -> x.weigh(1, 1), true);
    }

    private static void dueCursorStays(String what, Call call) {
        for (int nexts = 0; nexts <= 5; nexts++) {
            BestPairs x = fourPairs(nexts);
            call.on(x);
            BestPairs untouched = fourPairs(nexts);
            String when = " after " + nexts + " times next() and " + what;
            due("passed()" + when, x.passed(), untouched.passed());
            due("lastValue()" + when, x.lastValue(), untouched.lastValue());
            due("next()" + when, x.next(), untouched.next());
        }
    }

    private static void cursorIsNotPutBackByARefusedCall() {
        sentence("by a call of enter, remove, rescore or weigh that answers true or a number of 0 or more");
        dueCursorStays("enter(2, 0, 0)", x -> x.enter(2, 0, 0));
        dueCursorStays("enter(0, 8, 0)", x -> x.enter(0, 8, 0));
        dueCursorStays("enter(1, 0, 1001)", x -> x.enter(1, 0, 1001));
        dueCursorStays("remove(0, 2)", x -> x.remove(0, 2));
        dueCursorStays("remove(2, 0)", x -> x.remove(2, 0));
        dueCursorStays("rescore(1, 2, 5)", x -> x.rescore(1, 2, 5));
        dueCursorStays("rescore(0, 0, 1001)", x -> x.rescore(0, 0, 1001));
        dueCursorStays("weigh(2, 1)", x -> x.weigh(2, 1));
        dueCursorStays("weigh(0, 10)", x -> x.weigh(0, 10));
        for (int list = 0; list < 2; list++) {
            for (int nexts = 0; nexts <= 21; nexts++) {
                BestPairs x = crowded(12, 12, nexts);
                due("enter into a full list", x.enter(list, 0, 0), FULL);
                due("passed() after FULL", x.passed(), nexts < 20 ? nexts : 20);
            }
        }
    }

    private static void cursorIsNotPutBackByAsking() {
        sentence("it is put back there whenever an entry or a weight is changed");
        dueCursorStays("entries", x -> x.entries(0) + x.entries(1) + x.entries(2));
        dueCursorStays("score", x -> x.score(0, 0) + x.score(1, 11) + x.score(2, 0));
        dueCursorStays("passed", x -> x.passed());
        dueCursorStays("lastValue", x -> x.lastValue());
        dueCursorStays("pairs", x -> x.pairs());
        dueCursorStays("atLeast", x -> x.atLeast(0) + x.atLeast(50) + x.atLeast(MAX));
        dueCursorStays("bestPlace", x -> x.bestPlace(0, 1) + x.bestPlace(1, 0) + x.bestPlace(2, 0));
    }

    private static void newObjectHasTwoEmptyLists() {
        sentence("Two empty lists");
        BestPairs other = crowded(12, 12, 3);
        BestPairs x = new BestPairs();
        for (int list = 0; list < 2; list++) {
            due("entries(" + list + ")", x.entries(list), 0);
            for (int i = 0; i < 12; i++) {
                due("score(" + list + ", " + i + ")", x.score(list, i), NONE);
            }
        }
        due("pairs()", x.pairs(), 0);
        due("passed()", x.passed(), 0);
        due("the other object's passed()", other.passed(), 3);
        due("the other object's entries(0)", other.entries(0), 4095);
    }

    private static void newObjectHasBothWeights1() {
        sentence("both weights 1");
        crowded(1, 1, 0);
        due("value", firstValue(onePair(0, 1000, 0)), 1000);
        due("value", firstValue(onePair(0, 0, 1000)), 1000);
        due("value", firstValue(onePair(0, 700, 20)), 720);
    }

    private static void enterAnswersTheLeastFreeNumber() {
        sentence("answers its number, the least that no entry of the list has");
        for (int list = 0; list < 2; list++) {
            due("the first of an empty list", new BestPairs().enter(list, 0, 0), 0);
            for (int i = 0; i < 12; i++) {
                BestPairs x = crowded(12, 12, 0);
                x.remove(list, i);
                due("enter when only " + i + " is free", x.enter(list, 3, 5), i);
                due("the score of number " + i, x.score(list, i), 5);
            }
            for (int i = 0; i < 11; i++) {
                BestPairs x = crowded(12, 12, 0);
                x.remove(list, i);
                x.remove(list, 11);
                due("enter when " + i + " and 11 are free", x.enter(list, 3, 5), i);
                due("then", x.enter(list, 3, 5), 11);
                due("then", x.enter(list, 3, 5), FULL);
            }
            BestPairs y = list == 0 ? crowded(0, 12, 0) : crowded(12, 0, 0);
            due("the first beside a full list", y.enter(list, 0, 0), 0);
        }
        newEntryHasNothingOfTheOldOne();
    }

    private static void newEntryHasNothingOfTheOldOne() {
        BestPairs x = onePair(5, 900, 9);
        x.remove(0, 0);
        due("enter in the place of a removed one", x.enter(0, 6, 1), 0);
        due("its score", x.score(0, 0), 1);
        due("its key is not the old one", x.pairs(), 0);
        x.enter(1, 6, 0);
        due("its key is the new one", x.pairAt(0), 1);
    }

    private static void enterRefusesAWrongList() {
        sentence("NONE when list is not 0 or 1");
        due("list 0", new BestPairs().enter(0, 7, 1000), 0);
        due("list 1", new BestPairs().enter(1, 7, 1000), 0);
        for (int list : NO_LISTS) {
            dueRefused("enter(" + list + ", 0, 0)", x -> x.enter(list, 0, 0), NONE);
        }
    }

    private static void enterRefusesAWrongKey() {
        sentence("NONE when key is not 0 .. 7");
        for (int list = 0; list < 2; list++) {
            int in = list;
            due("key 0", new BestPairs().enter(in, 0, 0), 0);
            due("key 7", new BestPairs().enter(in, 7, 0), 0);
            for (int key : NO_KEYS) {
                dueRefused("enter(" + in + ", " + key + ", 0)", x -> x.enter(in, key, 0), NONE);
            }
        }
    }

    private static void enterRefusesAWrongScore() {
        sentence("NONE when score is not 0 .. 1000");
        for (int list = 0; list < 2; list++) {
            int in = list;
            due("score 0", new BestPairs().enter(in, 0, 0), 0);
            due("score 1000", new BestPairs().enter(in, 0, 1000), 0);
            for (int score : NO_SCORES) {
                dueRefused("enter(" + in + ", 0, " + score + ")", x -> x.enter(in, 0, score), NONE);
            }
        }
    }

    private static void enterRefusesAtTwelveEntries() {
        sentence("FULL when the list has twelve entries");
        for (int list = 0; list < 2; list++) {
            BestPairs x = new BestPairs();
            for (int i = 0; i < 12; i++) {
                due("enter with " + i + " entries", x.enter(list, 7, 1000), i);
            }
            due("enter with twelve", x.enter(list, 0, 0), FULL);
            due("enter with twelve, again", x.enter(list, 7, 1000), FULL);
            due("the other list is not full", x.enter(1 - list, 0, 0), 0);
            x.remove(list, 0);
            due("enter with eleven again", x.enter(list, 0, 0), 0);
            due("enter with twelve again", x.enter(list, 0, 0), FULL);
            for (int nexts = 0; nexts <= 21; nexts++) {
                BestPairs y = crowded(12, 12, nexts);
                due("enter into a full list", y.enter(list, 5, 77), FULL);
                due("all after FULL", picture(y), picture(crowded(12, 12, nexts)));
            }
        }
    }

    private static void enterTestsNoneBeforeFull() {
        sentence("enter: NONE is tested before FULL");
        for (int list = 0; list < 2; list++) {
            BestPairs x = crowded(12, 12, 0);
            due("full", x.enter(list, 0, 0), FULL);
            due("full and key below", x.enter(list, -1, 0), NONE);
            due("full and key above", x.enter(list, 8, 0), NONE);
            due("full and score below", x.enter(list, 0, -1), NONE);
            due("full and score above", x.enter(list, 0, 1001), NONE);
            due("full and both wrong", x.enter(list, 8, 1001), NONE);
            due("full again", x.enter(list, 7, 1000), FULL);
        }
        BestPairs y = crowded(12, 12, 0);
        due("both full and list below", y.enter(-1, 0, 0), NONE);
        due("both full and list above", y.enter(2, 0, 0), NONE);
    }

    private static void removeTakesAway() {
        sentence("Takes entry i of a list away and answers true");
        for (int list = 0; list < 2; list++) {
            for (int i = 0; i < 12; i++) {
                BestPairs x = crowded(12, 12, 0);
                due("remove(" + list + ", " + i + ")", x.remove(list, i), true);
                due("entries(" + list + ")", x.entries(list), 4095 - (1 << i));
                due("entries(" + (1 - list) + ")", x.entries(1 - list), 4095);
                due("score(" + list + ", " + i + ")", x.score(list, i), NONE);
                due("pairs()", x.pairs(), i % 8 < 4 ? 18 : 19);
            }
            BestPairs y = new BestPairs();
            y.enter(list, 0, 0);
            due("remove of the only entry", y.remove(list, 0), true);
            due("entries(" + list + ") of the emptied list", y.entries(list), 0);
        }
    }

    private static void removeRefusesWhenThereIsNone() {
        sentence("false, changing nothing, when there is none (remove)");
        for (int list : NO_LISTS) {
            dueRefused("remove(" + list + ", 0)", x -> x.remove(list, 0), false);
            dueRefused("remove(" + list + ", 11)", x -> x.remove(list, 11), false);
        }
        // Number 12 of list 0 and number -1 of list 1 must not reach into the other list.
        for (int i : NO_NUMBERS) {
            dueRefused("remove(0, " + i + ")", x -> x.remove(0, i), false);
            dueRefused("remove(1, " + i + ")", x -> x.remove(1, i), false);
        }
        BestPairs x = crowded(8, 8, 2);
        for (int i = 8; i < 12; i++) {
            due("remove(0, " + i + "), never entered", x.remove(0, i), false);
            due("remove(1, " + i + "), never entered", x.remove(1, i), false);
        }
        due("all after it", picture(x), picture(crowded(8, 8, 2)));
        for (int list = 0; list < 2; list++) {
            BestPairs y = fourPairs(0);
            y.remove(list, 1);
            y.next();
            due("remove of a removed one", y.remove(list, 1), false);
            due("entries(" + list + ") after it", y.entries(list), 1);
            due("passed() after it", y.passed(), 1);
            due("remove from an empty list", new BestPairs().remove(list, 0), false);
        }
    }

    private static void rescoreTakesTheLeastAndTheGreatest() {
        sentence("Gives entry i of a list another score and answers true");
        for (int list = 0; list < 2; list++) {
            for (int i = 0; i < 12; i++) {
                BestPairs x = crowded(12, 12, 0);
                due("rescore(" + list + ", " + i + ", 0)", x.rescore(list, i, 0), true);
                due("score 0", x.score(list, i), 0);
                due("rescore(" + list + ", " + i + ", 1000)", x.rescore(list, i, 1000), true);
                due("score 1000", x.score(list, i), 1000);
                due("the other list's score", x.score(1 - list, i), list == 0 ? 1000 - 7 * i : 10 * i);
                due("pairs(), for the key stays", x.pairs(), 20);
            }
        }
        BestPairs y = fourPairs(0);
        y.rescore(0, 1, 1000);
        due("the ranking after rescore of l", y.pairAt(0), 17);
        y.rescore(1, 0, 31);
        due("the ranking after rescore of r", y.pairAt(0), 16);
    }

    private static void rescoreRefusesWhenThereIsNoSuchEntry() {
        sentence("false, changing nothing, when there is no such entry (rescore)");
        for (int list : NO_LISTS) {
            dueRefused("rescore(" + list + ", 0, 5)", x -> x.rescore(list, 0, 5), false);
            dueRefused("rescore(" + list + ", 11, 5)", x -> x.rescore(list, 11, 5), false);
        }
        for (int i : NO_NUMBERS) {
            dueRefused("rescore(0, " + i + ", 5)", x -> x.rescore(0, i, 5), false);
            dueRefused("rescore(1, " + i + ", 5)", x -> x.rescore(1, i, 5), false);
        }
        dueRefused("rescore(2, 12, 1001)", x -> x.rescore(2, 12, 1001), false);
        BestPairs x = crowded(8, 8, 2);
        for (int i = 8; i < 12; i++) {
            due("rescore(0, " + i + ", 5), never entered", x.rescore(0, i, 5), false);
            due("rescore(1, " + i + ", 5), never entered", x.rescore(1, i, 5), false);
        }
        due("all after it", picture(x), picture(crowded(8, 8, 2)));
        for (int list = 0; list < 2; list++) {
            BestPairs y = fourPairs(0);
            y.remove(list, 1);
            y.next();
            due("rescore of a removed one", y.rescore(list, 1, 5), false);
            due("its score", y.score(list, 1), NONE);
            due("passed() after it", y.passed(), 1);
            due("rescore in an empty list", new BestPairs().rescore(list, 0, 5), false);
        }
    }

    private static void rescoreRefusesAWrongScore() {
        sentence("false, changing nothing, when score is not 0 .. 1000");
        for (int list = 0; list < 2; list++) {
            int in = list;
            for (int score : NO_SCORES) {
                dueRefused("rescore(" + in + ", 0, " + score + ")", x -> x.rescore(in, 0, score), false);
                dueRefused("rescore(" + in + ", 11, " + score + ")", x -> x.rescore(in, 11, score), false);
            }
        }
    }

    private static void weighTakesTheLeastAndTheGreatest() {
        sentence("Sets the weight of a list and answers true");
        for (int list = 0; list < 2; list++) {
            BestPairs x = list == 0 ? onePair(0, 10, 1) : onePair(0, 1, 10);
            due("weigh(" + list + ", 0)", x.weigh(list, 0), true);
            due("value", firstValue(x), 1);
            due("weigh(" + list + ", 9)", x.weigh(list, 9), true);
            due("value", firstValue(x), 91);
            BestPairs y = new BestPairs();
            due("weigh(" + list + ", 9) before any entry", y.weigh(list, 9), true);
            y.enter(list, 0, 10);
            y.enter(1 - list, 0, 1);
            due("value", firstValue(y), 91);
        }
    }

    private static void weighRefusesAWrongList() {
        sentence("false, changing nothing, when list is not 0 or 1");
        for (int list : NO_LISTS) {
            dueRefused("weigh(" + list + ", 5)", x -> x.weigh(list, 5), false);
            dueRefused("weigh(" + list + ", 10)", x -> x.weigh(list, 10), false);
        }
    }

    private static void weighRefusesAWrongWeight() {
        sentence("false, changing nothing, when w is not 0 .. 9");
        for (int w : NO_WEIGHTS) {
            dueRefused("weigh(0, " + w + ")", x -> x.weigh(0, w), false);
            dueRefused("weigh(1, " + w + ")", x -> x.weigh(1, w), false);
        }
        // The worlds without a pair do not show the weights, so they are looked at here.
        BestPairs y = new BestPairs();
        y.weigh(0, 10);
        y.weigh(1, -1);
        y.enter(0, 0, 1000);
        y.enter(1, 0, 10);
        due("value, both weights still 1", firstValue(y), 1010);
    }

    private static void nextAnswersThePair() {
        sentence("Moves the cursor over the next pair of the ranking, and answers it as 16 * l + r");
        for (int l = 0; l < 12; l++) {
            for (int r = 0; r < 12; r++) {
                BestPairs x = allEqual();
                x.rescore(0, l, 700);
                x.rescore(1, r, 600);
                due("next()", x.next(), 16 * l + r);
                due("passed()", x.passed(), 1);
            }
        }
    }

    private static void nextAtTheEnd() {
        sentence("NONE, and the cursor stays at the end, when there is no further pair");
        BestPairs x = fourPairs(3);
        due("next() over the last pair", x.next(), 16);
        for (int n = 0; n < 200; n++) {
            due("next() at the end", x.next(), NONE);
            due("passed() at the end", x.passed(), 4);
        }
        due("lastValue() at the end", x.lastValue(), 40);
        due("pairs() at the end", x.pairs(), 4);
        x.enter(0, 2, 1000);
        due("next() after enter at the end", x.next(), 33);
        BestPairs most = allEqual();
        for (int n = 0; n < 144; n++) {
            due("next() of 144", most.next(), 16 * (n / 12) + n % 12);
        }
        due("next() behind 144", most.next(), NONE);
        due("next() behind 144 again", most.next(), NONE);
        due("passed() behind 144", most.passed(), 144);
    }

    private static void nextWithoutAnyPair() {
        sentence("NONE when there is no further pair: no pair at all");
        World[] pairless = {
            BestPairs::new, () -> crowded(12, 0, 0), () -> crowded(0, 12, 0), () -> twoKeys(),
        };
        for (int n = 0; n < pairless.length; n++) {
            BestPairs x = pairless[n].make();
            due("next() without a pair, " + n, x.next(), NONE);
            due("next() again", x.next(), NONE);
            due("passed()", x.passed(), 0);
            due("lastValue()", x.lastValue(), NONE);
        }
    }

    /** Both lists full, and yet no pair. */
    private static BestPairs twoKeys() {
        BestPairs x = new BestPairs();
        for (int i = 0; i < 12; i++) {
            x.enter(0, 0, 1000);
            x.enter(1, 7, 1000);
        }
        return x;
    }

    private static void passedFromNoneToAll() {
        sentence("How many pairs the cursor has passed");
        due("passed() of a new object", new BestPairs().passed(), 0);
        BestPairs x = allEqual();
        for (int n = 0; n < 144; n++) {
            due("passed()", x.passed(), n);
            x.next();
        }
        due("passed() at the end", x.passed(), 144);
        x.next();
        due("passed() after NONE", x.passed(), 144);
    }

    private static void lastValueWhenNoneIsPassed() {
        sentence("NONE when it has passed none");
        due("lastValue() of a new object", new BestPairs().lastValue(), NONE);
        BestPairs x = fourPairs(0);
        due("lastValue() before the first pair", x.lastValue(), NONE);
        x.next();
        due("lastValue() behind the first pair", x.lastValue(), 60);
        x.rewind();
        due("lastValue() after rewind", x.lastValue(), NONE);
        x.next();
        x.weigh(0, 1);
        due("lastValue() after a change", x.lastValue(), NONE);
        BestPairs y = onePair(0, 0, 0);
        y.next();
        due("lastValue() of a pair of value 0", y.lastValue(), 0);
        BestPairs z = twoKeys();
        z.next();
        due("lastValue() without any pair", z.lastValue(), NONE);
    }

    private static void lastValueAtTheEnd() {
        sentence("The value of the pair the cursor passed last");
        int[] values = {60, 50, 50, 40};
        BestPairs x = fourPairs(0);
        for (int value : values) {
            x.next();
            due("lastValue()", x.lastValue(), value);
        }
        x.next();
        x.next();
        due("lastValue() at the end", x.lastValue(), 40);
    }

    private static void rewindFromEverywhere() {
        sentence("Puts the cursor back before the first pair");
        for (int nexts = 0; nexts <= 5; nexts++) {
            BestPairs x = fourPairs(nexts);
            x.rewind();
            duePutBack("rewind and " + nexts + " times next()", x);
        }
        BestPairs y = twoKeys();
        y.rewind();
        due("next() after rewind without any pair", y.next(), NONE);
        due("passed() after rewind without any pair", y.passed(), 0);
        BestPairs z = crowded(12, 12, 21);
        z.rewind();
        due("all else after rewind", picture(z), picture(crowded(12, 12, 0)));
    }

    private static void entriesOfEmptyAndFull() {
        sentence("The numbers of the entries of a list: bit i for entry i");
        for (int list = 0; list < 2; list++) {
            BestPairs x = new BestPairs();
            due("entries of an empty list", x.entries(list), 0);
            for (int i = 0; i < 12; i++) {
                x.enter(list, 0, 0);
                due("entries after number " + i, x.entries(list), (2 << i) - 1);
                due("entries of the other list", x.entries(1 - list), 0);
            }
            for (int i = 0; i < 11; i++) {
                x.remove(list, i);
            }
            due("bit 11 alone", x.entries(list), 2048);
            x.enter(list, 0, 0);
            x.remove(list, 11);
            due("bit 0 alone", x.entries(list), 1);
        }
    }

    private static void entriesOfAWrongList() {
        sentence("0 when list is not 0 or 1");
        for (int list : NO_LISTS) {
            dueRefused("entries(" + list + ")", x -> x.entries(list), 0);
        }
    }

    private static void scoreOfTheEdges() {
        sentence("The score of entry i of a list");
        for (int list = 0; list < 2; list++) {
            BestPairs x = crowded(12, 12, 0);
            for (int i = 0; i < 12; i++) {
                due("score(" + list + ", " + i + ")", x.score(list, i), list == 0 ? 10 * i : 1000 - 7 * i);
            }
        }
    }

    private static void scoreWhenThereIsNone() {
        sentence("NONE when there is none (score)");
        for (int list : NO_LISTS) {
            dueRefused("score(" + list + ", 0)", x -> x.score(list, 0), NONE);
            dueRefused("score(" + list + ", 11)", x -> x.score(list, 11), NONE);
        }
        for (int i : NO_NUMBERS) {
            dueRefused("score(0, " + i + ")", x -> x.score(0, i), NONE);
            dueRefused("score(1, " + i + ")", x -> x.score(1, i), NONE);
        }
        for (int list = 0; list < 2; list++) {
            BestPairs x = crowded(8, 8, 0);
            due("the last there is", x.score(list, 7), list == 0 ? 70 : 951);
            due("the first there is not", x.score(list, 8), NONE);
            x.remove(list, 7);
            due("a removed one", x.score(list, 7), NONE);
            due("of an empty list", new BestPairs().score(list, 0), NONE);
        }
    }

    private static void pairAtFirstAndLast() {
        sentence("The pair at place k (0 the first) of the ranking as 16 * l + r");
        int[] ranking = {1, 0, 17, 16};
        BestPairs x = fourPairs(0);
        for (int k = 0; k < 4; k++) {
            due("pairAt(" + k + ")", x.pairAt(k), ranking[k]);
        }
        due("pairAt(143) of 144", allEqual().pairAt(143), 187);
        due("pairAt(0) of 144", allEqual().pairAt(0), 0);
    }

    private static void pairAtWhenThereAreNotSoMany() {
        sentence("NONE when there are not so many");
        BestPairs x = fourPairs(0);
        due("pairAt(3) of four", x.pairAt(3), 16);
        for (int k : new int[] {4, 5, 143, 144, 256, 65536, MAX}) {
            due("pairAt(" + k + ") of four", x.pairAt(k), NONE);
        }
        BestPairs most = allEqual();
        for (int k : new int[] {144, 145, 256, 65536, MAX}) {
            due("pairAt(" + k + ") of 144", most.pairAt(k), NONE);
        }
        due("pairAt(0) of a new object", new BestPairs().pairAt(0), NONE);
        due("pairAt(0) of full lists without a pair", twoKeys().pairAt(0), NONE);
        x.remove(0, 0);
        due("pairAt(1) of two", x.pairAt(1), 16);
        due("pairAt(2) of two", x.pairAt(2), NONE);
    }

    private static void pairAtBelow0() {
        sentence("NONE when k is below 0");
        for (int k : new int[] {-1, -2, -144, -256, -65536, MIN + 1, MIN}) {
            dueRefused("pairAt(" + k + ")", x -> x.pairAt(k), NONE);
            due("pairAt(" + k + ") of 144", allEqual().pairAt(k), NONE);
        }
    }

    private static void pairAtDoesNotMoveTheCursor() {
        sentence("The cursor does not move");
        for (int k : new int[] {-1, 0, 1, 2, 3, 4, MIN, MAX}) {
            dueCursorStays("pairAt(" + k + ")", x -> x.pairAt(k));
        }
    }

    private static void pairsFromNoneToAll() {
        sentence("The number of pairs");
        due("pairs() of a new object", new BestPairs().pairs(), 0);
        due("pairs() with list 1 empty", crowded(12, 0, 0).pairs(), 0);
        due("pairs() with list 0 empty", crowded(0, 12, 0).pairs(), 0);
        due("pairs() of full lists without a pair", twoKeys().pairs(), 0);
        due("pairs() of one and one", onePair(7, 0, 0).pairs(), 1);
        due("pairs() of the most", allEqual().pairs(), 144);
        for (int nexts = 0; nexts <= 5; nexts++) {
            due("pairs() after " + nexts + " times next()", fourPairs(nexts).pairs(), 4);
        }
        BestPairs x = allEqual();
        x.weigh(0, 0);
        x.weigh(1, 0);
        due("pairs() of value 0", x.pairs(), 144);
        x.remove(1, 11);
        due("pairs() after remove", x.pairs(), 132);
    }

    private static void atLeastCountsTheEqualOnes() {
        sentence("The number of pairs whose value is at least v");
        int[] bounds = {39, 40, 41, 49, 50, 51, 59, 60, 61};
        int[] counts = {4, 4, 3, 3, 3, 1, 1, 1, 0};
        for (int nexts = 0; nexts <= 5; nexts++) {
            BestPairs x = fourPairs(nexts);
            for (int n = 0; n < bounds.length; n++) {
                due("atLeast(" + bounds[n] + ")", x.atLeast(bounds[n]), counts[n]);
            }
        }
        BestPairs most = allEqual();
        due("atLeast(1000) of 144", most.atLeast(1000), 144);
        due("atLeast(1001) of 144", most.atLeast(1001), 0);
    }

    private static void atLeastOfEverythingAndNothing() {
        sentence("whose value is at least v: every v");
        BestPairs x = fourPairs(0);
        for (int v : new int[] {0, -1, -65536, MIN + 1, MIN}) {
            due("atLeast(" + v + ")", x.atLeast(v), 4);
            due("atLeast(" + v + ") without a pair", twoKeys().atLeast(v), 0);
            due("atLeast(" + v + ") of a new object", new BestPairs().atLeast(v), 0);
        }
        for (int v : new int[] {18001, 65536 + 40, MAX - 1, MAX}) {
            due("atLeast(" + v + ")", x.atLeast(v), 0);
        }
        BestPairs y = onePair(0, 1000, 1000);
        y.weigh(0, 9);
        y.weigh(1, 9);
        due("atLeast(18000) of the greatest value", y.atLeast(18000), 1);
        due("atLeast(18001) of the greatest value", y.atLeast(18001), 0);
        BestPairs z = onePair(0, 0, 0);
        due("atLeast(0) of the least value", z.atLeast(0), 1);
        due("atLeast(1) of the least value", z.atLeast(1), 0);
    }

    private static void bestPlaceFirstAndLast() {
        sentence("The place (0 the first) of the best pair of entry i of a list in the ranking");
        BestPairs x = allEqual();
        for (int i = 0; i < 12; i++) {
            due("bestPlace(0, " + i + ") of 144", x.bestPlace(0, i), 12 * i);
            due("bestPlace(1, " + i + ") of 144", x.bestPlace(1, i), i);
        }
        for (int nexts = 0; nexts <= 5; nexts++) {
            BestPairs y = fourPairs(nexts);
            due("bestPlace(0, 0)", y.bestPlace(0, 0), 0);
            due("bestPlace(0, 1)", y.bestPlace(0, 1), 2);
            due("bestPlace(1, 0)", y.bestPlace(1, 0), 1);
            due("bestPlace(1, 1)", y.bestPlace(1, 1), 0);
        }
        // An entry whose only pair is the last one, behind 121 others.
        BestPairs z = allEqual();
        z.remove(0, 0);
        z.remove(1, 0);
        z.enter(0, 7, 0);
        z.enter(1, 7, 0);
        due("bestPlace(0, 0) behind 121", z.bestPlace(0, 0), 121);
        due("bestPlace(1, 0) behind 121", z.bestPlace(1, 0), 121);
    }

    private static void bestPlaceWhenThereIsNoSuchEntry() {
        sentence("NONE when there is no such entry (bestPlace)");
        for (int list : NO_LISTS) {
            dueRefused("bestPlace(" + list + ", 0)", x -> x.bestPlace(list, 0), NONE);
            dueRefused("bestPlace(" + list + ", 11)", x -> x.bestPlace(list, 11), NONE);
        }
        for (int i : NO_NUMBERS) {
            dueRefused("bestPlace(0, " + i + ")", x -> x.bestPlace(0, i), NONE);
            dueRefused("bestPlace(1, " + i + ")", x -> x.bestPlace(1, i), NONE);
        }
        for (int list = 0; list < 2; list++) {
            BestPairs x = fourPairs(0);
            due("the first there is not", x.bestPlace(list, 2), NONE);
            x.remove(list, 0);
            due("a removed one", x.bestPlace(list, 0), NONE);
            due("of an empty list", new BestPairs().bestPlace(list, 0), NONE);
        }
    }

    private static void bestPlaceWhenInNoPair() {
        sentence("NONE when it is in no pair");
        BestPairs x = twoKeys();
        BestPairs onlyList0 = crowded(12, 0, 0);
        BestPairs onlyList1 = crowded(0, 12, 0);
        for (int i = 0; i < 12; i++) {
            due("bestPlace(0, " + i + "), no key agrees", x.bestPlace(0, i), NONE);
            due("bestPlace(1, " + i + "), no key agrees", x.bestPlace(1, i), NONE);
            due("bestPlace(0, " + i + "), list 1 empty", onlyList0.bestPlace(0, i), NONE);
            due("bestPlace(1, " + i + "), list 0 empty", onlyList1.bestPlace(1, i), NONE);
        }
        for (int list = 0; list < 2; list++) {
            BestPairs y = fourPairs(0);
            y.enter(list, 3, 1000);
            due("beside entries that are in pairs", y.bestPlace(list, 2), NONE);
            y.remove(1 - list, 0);
            due("one partner left", y.bestPlace(list, 0), list == 0 ? 0 : 1);
            y.remove(1 - list, 1);
            due("the last partner removed", y.bestPlace(list, 0), NONE);
        }
    }
}
