/** Each promise of the document by hand: ordinary inputs, the edges it names, and wrong inputs. */
public final class PromisesTest {
    private static final int NONE = BestPairs.NONE;
    private static final int FULL = BestPairs.FULL;
    private static final int MIN = Integer.MIN_VALUE;
    private static final int MAX = Integer.MAX_VALUE;
    private static final int[] NO_LISTS = {-1, 2, 3, MIN, MAX};
    private static final int[] NO_NUMBERS = {-1, 12, 13, 24, MIN, MAX};
    private static final int[] NO_SCORES = {-1, 1001, MIN, MAX};

    private static int wrong = 0;

    private static void due(String what, int got, int want) {
        if (got != want) {
            wrong++;
            System.out.println(what + " answered " + got + ", due is " + want);
        }
    }

    private static void due(String what, boolean got, boolean want) {
        if (got != want) {
            wrong++;
            System.out.println(what + " answered " + got + ", due is " + want);
        }
    }

    public static void main(String[] args) {
        promise1NewObject();
        promise2Enter();
        promise2EnterRefused();
        promise3Remove();
        promise4Rescore();
        promise5Weigh();
        promise6Entries();
        promise7Score();
        promise8Next();
        promise9Passed();
        promise10LastValue();
        promise11Rewind();
        promise12PairAt();
        promise12Ranking();
        promise13Pairs();
        promise14AtLeast();
        promise15BestPlace();
        promise16Order();
        cursorGoesBackAtEachChange();
        cursorStaysWhenNothingIsChanged();
        System.out.println(wrong == 0 ? "all answers are as due" : wrong + " answers are not as due");
        if (wrong != 0) {
            System.exit(1);
        }
    }

    private static BestPairs withFullList(int list) {
        BestPairs x = new BestPairs();
        for (int i = 0; i < 12; i++) {
            due("filling list " + list, x.enter(list, i % 8, i), i);
        }
        return x;
    }

    /** Pairs in order: 17 (value 70), 0 (50), 18 (50), 3 (45); entry 2 of list 0 has no pair. */
    private static BestPairs withFourPairs() {
        BestPairs x = new BestPairs();
        x.enter(0, 3, 20);
        x.enter(0, 5, 30);
        x.enter(0, 6, 1000);
        x.enter(1, 3, 30);
        x.enter(1, 5, 40);
        x.enter(1, 5, 20);
        x.enter(1, 3, 25);
        return x;
    }

    private static void promise1NewObject() {
        BestPairs x = new BestPairs();
        due("1: entries(0)", x.entries(0), 0);
        due("1: entries(1)", x.entries(1), 0);
        due("1: pairs()", x.pairs(), 0);
        due("1: passed()", x.passed(), 0);
        due("1: lastValue()", x.lastValue(), NONE);
        due("1: next()", x.next(), NONE);
        x.enter(0, 0, 100);
        x.enter(1, 0, 7);
        x.next();
        due("1: both weights 1", x.lastValue(), 107);
        BestPairs y = new BestPairs();
        due("1: another object is empty", y.entries(0), 0);
    }

    private static void promise2Enter() {
        BestPairs x = new BestPairs();
        due("2: first", x.enter(0, 0, 0), 0);
        due("2: second", x.enter(0, 7, 1000), 1);
        due("2: other list", x.enter(1, 7, 1000), 0);
        due("2: score kept", x.score(0, 1), 1000);
        due("2: key kept", x.pairAt(0), 16);
        due("2: third", x.enter(0, 7, 5), 2);
        x.remove(0, 0);
        x.remove(0, 1);
        due("2: least free number", x.enter(0, 7, 9), 0);
        due("2: score of the new entry", x.score(0, 0), 9);
        due("2: key of the new entry", x.pairAt(0), 0);
        due("2: next free number", x.enter(0, 1, 1), 1);
        due("2: behind the last", x.enter(0, 1, 1), 3);
        for (int list = 0; list < 2; list++) {
            BestPairs full = withFullList(list);
            due("2: full", full.enter(list, 0, 0), FULL);
            due("2: full changes nothing", full.entries(list), 4095);
            due("2: full keeps the last score", full.score(list, 11), 11);
            due("2: the other list is not full", full.enter(1 - list, 0, 0), 0);
            full.remove(list, 11);
            due("2: no longer full", full.enter(list, 0, 77), 11);
            due("2: score of the last number", full.score(list, 11), 77);
        }
    }

    private static void promise2EnterRefused() {
        BestPairs x = new BestPairs();
        for (int list : NO_LISTS) {
            due("2: list " + list, x.enter(list, 0, 0), NONE);
        }
        for (int key : new int[] {-1, 8, 9, MIN, MAX}) {
            due("2: key " + key, x.enter(0, key, 0), NONE);
            due("2: key " + key, x.enter(1, key, 0), NONE);
        }
        for (int score : NO_SCORES) {
            due("2: score " + score, x.enter(0, 0, score), NONE);
            due("2: score " + score, x.enter(1, 0, score), NONE);
        }
        due("2: nothing entered in 0", x.entries(0), 0);
        due("2: nothing entered in 1", x.entries(1), 0);
    }

    private static void promise3Remove() {
        BestPairs x = withFourPairs();
        due("3: remove(1, 1)", x.remove(1, 1), true);
        due("3: entries(1)", x.entries(1), 13);
        due("3: entries(0)", x.entries(0), 7);
        due("3: score(1, 1)", x.score(1, 1), NONE);
        due("3: score(0, 1)", x.score(0, 1), 30);
        due("3: pairs()", x.pairs(), 3);
        due("3: again", x.remove(1, 1), false);
        due("3: never there", x.remove(0, 3), false);
        for (int list : NO_LISTS) {
            due("3: list " + list, x.remove(list, 0), false);
        }
        for (int i : NO_NUMBERS) {
            due("3: entry " + i, x.remove(0, i), false);
            due("3: entry " + i, x.remove(1, i), false);
        }
        due("3: entries(0) stay", x.entries(0), 7);
        due("3: entries(1) stay", x.entries(1), 13);
        BestPairs full = withFullList(1);
        due("3: last number", full.remove(1, 11), true);
        due("3: all but the last", full.entries(1), 2047);
    }

    private static void promise4Rescore() {
        BestPairs x = withFourPairs();
        due("4: rescore(0, 0, 1000)", x.rescore(0, 0, 1000), true);
        due("4: score(0, 0)", x.score(0, 0), 1000);
        due("4: score(1, 0)", x.score(1, 0), 30);
        due("4: the ranking follows", x.pairAt(0), 0);
        due("4: the key stays", x.pairs(), 4);
        due("4: rescore(1, 0, 0)", x.rescore(1, 0, 0), true);
        due("4: score(1, 0)", x.score(1, 0), 0);
        due("4: the ranking follows", x.pairAt(0), 3);
        for (int score : NO_SCORES) {
            due("4: score " + score, x.rescore(0, 0, score), false);
            due("4: score " + score, x.rescore(1, 1, score), false);
        }
        due("4: score(0, 0) stays", x.score(0, 0), 1000);
        due("4: score(1, 1) stays", x.score(1, 1), 40);
        due("4: no such entry", x.rescore(0, 3, 5), false);
        due("4: still none", x.score(0, 3), NONE);
        for (int list : NO_LISTS) {
            due("4: list " + list, x.rescore(list, 0, 5), false);
        }
        for (int i : NO_NUMBERS) {
            due("4: entry " + i, x.rescore(0, i, 5), false);
            due("4: entry " + i, x.rescore(1, i, 5), false);
        }
        due("4: score(1, 0) stays", x.score(1, 0), 0);
        x.remove(0, 0);
        due("4: removed entry", x.rescore(0, 0, 5), false);
        due("4: removed entry stays away", x.entries(0), 6);
    }

    private static void promise5Weigh() {
        BestPairs x = new BestPairs();
        x.enter(0, 0, 100);
        x.enter(1, 0, 7);
        due("5: weigh(0, 9)", x.weigh(0, 9), true);
        x.next();
        due("5: value", x.lastValue(), 907);
        due("5: weigh(1, 3)", x.weigh(1, 3), true);
        x.next();
        due("5: value", x.lastValue(), 921);
        due("5: weigh(0, 0)", x.weigh(0, 0), true);
        x.next();
        due("5: value", x.lastValue(), 21);
        for (int list : NO_LISTS) {
            due("5: list " + list, x.weigh(list, 5), false);
        }
        for (int w : new int[] {-1, 10, MIN, MAX}) {
            due("5: weight " + w, x.weigh(0, w), false);
            due("5: weight " + w, x.weigh(1, w), false);
        }
        due("5: value stays", x.lastValue(), 21);
        due("5: weigh(1, 0)", x.weigh(1, 0), true);
        x.next();
        due("5: value", x.lastValue(), 0);
        due("5: weigh(1, 9)", x.weigh(1, 9), true);
        x.next();
        due("5: value", x.lastValue(), 63);
    }

    private static void promise6Entries() {
        BestPairs x = withFourPairs();
        due("6: entries(0)", x.entries(0), 7);
        due("6: entries(1)", x.entries(1), 15);
        x.remove(0, 1);
        due("6: with a gap", x.entries(0), 5);
        for (int list : NO_LISTS) {
            due("6: list " + list, x.entries(list), 0);
        }
        due("6: full list 0", withFullList(0).entries(0), 4095);
        due("6: full list 1", withFullList(1).entries(1), 4095);
        due("6: empty beside a full one", withFullList(1).entries(0), 0);
    }

    private static void promise7Score() {
        BestPairs x = withFourPairs();
        due("7: score(0, 2)", x.score(0, 2), 1000);
        due("7: score(1, 2)", x.score(1, 2), 20);
        due("7: none", x.score(0, 3), NONE);
        for (int list : NO_LISTS) {
            due("7: list " + list, x.score(list, 0), NONE);
        }
        BestPairs full = withFullList(0);
        for (int i : NO_NUMBERS) {
            due("7: entry " + i, full.score(0, i), NONE);
            due("7: entry " + i, withFullList(1).score(1, i), NONE);
        }
        due("7: last number", full.score(0, 11), 11);
        full.remove(0, 11);
        due("7: removed", full.score(0, 11), NONE);
        // A score of 0 is not the same as no entry.
        due("7: score 0", full.score(0, 0), 0);
    }

    private static void promise8Next() {
        BestPairs x = withFourPairs();
        due("8: first", x.next(), 17);
        due("8: second", x.next(), 0);
        due("8: third", x.next(), 18);
        due("8: fourth", x.next(), 3);
        due("8: end", x.next(), NONE);
        due("8: end again", x.next(), NONE);
        due("8: stays at the end", x.passed(), 4);
        due("8: value at the end", x.lastValue(), 45);
    }

    private static void promise9Passed() {
        BestPairs x = withFourPairs();
        due("9: at first", x.passed(), 0);
        for (int n = 1; n <= 4; n++) {
            x.next();
            due("9: after " + n, x.passed(), n);
        }
        x.next();
        due("9: at the end", x.passed(), 4);
        due("9: asking moves nothing", x.passed(), 4);
    }

    private static void promise10LastValue() {
        BestPairs x = withFourPairs();
        due("10: none passed", x.lastValue(), NONE);
        x.next();
        due("10: first", x.lastValue(), 70);
        due("10: asking moves nothing", x.lastValue(), 70);
        x.next();
        due("10: second", x.lastValue(), 50);
        x.next();
        due("10: third", x.lastValue(), 50);
        x.next();
        due("10: fourth", x.lastValue(), 45);
        x.next();
        due("10: end", x.lastValue(), 45);
        BestPairs y = new BestPairs();
        y.enter(0, 0, 1000);
        y.enter(1, 0, 1000);
        y.weigh(0, 9);
        y.weigh(1, 9);
        due("10: none passed after weigh", y.lastValue(), NONE);
        y.next();
        due("10: greatest", y.lastValue(), 18000);
        y.rescore(0, 0, 0);
        y.rescore(1, 0, 0);
        due("10: none passed after rescore", y.lastValue(), NONE);
        y.next();
        due("10: least", y.lastValue(), 0);
    }

    private static void promise11Rewind() {
        BestPairs x = withFourPairs();
        x.rewind();
        due("11: at first", x.passed(), 0);
        x.next();
        x.next();
        x.rewind();
        due("11: passed()", x.passed(), 0);
        due("11: lastValue()", x.lastValue(), NONE);
        due("11: next()", x.next(), 17);
        for (int n = 0; n < 5; n++) {
            x.next();
        }
        x.rewind();
        due("11: from the end", x.next(), 17);
        due("11: entries stay", x.entries(1), 15);
        due("11: pairs stay", x.pairs(), 4);
    }

    private static void promise12PairAt() {
        BestPairs x = withFourPairs();
        due("12: pairAt(0)", x.pairAt(0), 17);
        due("12: pairAt(1)", x.pairAt(1), 0);
        due("12: pairAt(2)", x.pairAt(2), 18);
        due("12: pairAt(3)", x.pairAt(3), 3);
        for (int k : new int[] {4, 5, 143, 144, MAX, -1, -2, MIN}) {
            due("12: pairAt(" + k + ")", x.pairAt(k), NONE);
        }
        due("12: the cursor does not move", x.passed(), 0);
        x.next();
        x.pairAt(3);
        due("12: the cursor does not move", x.passed(), 1);
        due("12: the next pair", x.next(), 0);
        due("12: no pair at all", new BestPairs().pairAt(0), NONE);
    }

    private static void promise12Ranking() {
        BestPairs x = new BestPairs();
        for (int i = 0; i < 12; i++) {
            x.enter(0, 4, 500);
            x.enter(1, 4, 500);
        }
        for (int k = 0; k < 144; k++) {
            due("12: equal values, place " + k, x.pairAt(k), 16 * (k / 12) + k % 12);
        }
        due("12: behind the last of 144", x.pairAt(144), NONE);
        x.rescore(1, 11, 501);
        for (int k = 0; k < 12; k++) {
            due("12: value before number, place " + k, x.pairAt(k), 16 * k + 11);
        }
        due("12: then the others", x.pairAt(12), 0);
    }

    private static void promise13Pairs() {
        BestPairs x = withFourPairs();
        due("13: pairs()", x.pairs(), 4);
        x.next();
        due("13: all, not those to come", x.pairs(), 4);
        due("13: the cursor does not move", x.passed(), 1);
        x.enter(1, 6, 0);
        due("13: one more", x.pairs(), 5);
        x.weigh(0, 0);
        x.weigh(1, 0);
        due("13: value 0 counts too", x.pairs(), 5);
        x.remove(1, 0);
        due("13: one less", x.pairs(), 4);
        due("13: one list alone", withFullList(0).pairs(), 0);
        BestPairs most = new BestPairs();
        for (int i = 0; i < 12; i++) {
            most.enter(0, 7, i);
            most.enter(1, 7, i);
        }
        due("13: the most", most.pairs(), 144);
    }

    private static void promise14AtLeast() {
        BestPairs x = withFourPairs();
        x.next();
        int[] bounds = {MIN, -1, 0, 45, 46, 50, 51, 70, 71, MAX};
        int[] counts = {4, 4, 4, 4, 3, 3, 1, 1, 0, 0};
        for (int n = 0; n < bounds.length; n++) {
            due("14: atLeast(" + bounds[n] + ")", x.atLeast(bounds[n]), counts[n]);
        }
        due("14: the cursor does not move", x.passed(), 1);
        due("14: no pair at all", new BestPairs().atLeast(MIN), 0);
        x.weigh(0, 2);
        due("14: with another weight", x.atLeast(100), 1);
    }

    private static void promise15BestPlace() {
        BestPairs x = withFourPairs();
        x.next();
        due("15: bestPlace(0, 0)", x.bestPlace(0, 0), 1);
        due("15: bestPlace(0, 1)", x.bestPlace(0, 1), 0);
        due("15: in no pair", x.bestPlace(0, 2), NONE);
        due("15: no such entry", x.bestPlace(0, 3), NONE);
        due("15: bestPlace(1, 0)", x.bestPlace(1, 0), 1);
        due("15: bestPlace(1, 1)", x.bestPlace(1, 1), 0);
        due("15: bestPlace(1, 2)", x.bestPlace(1, 2), 2);
        due("15: bestPlace(1, 3)", x.bestPlace(1, 3), 3);
        due("15: no such entry", x.bestPlace(1, 4), NONE);
        due("15: the cursor does not move", x.passed(), 1);
        for (int list : NO_LISTS) {
            due("15: list " + list, x.bestPlace(list, 0), NONE);
        }
        for (int i : NO_NUMBERS) {
            due("15: entry " + i, x.bestPlace(0, i), NONE);
            due("15: entry " + i, x.bestPlace(1, i), NONE);
        }
        x.rescore(1, 3, 1000);
        due("15: the best of two", x.bestPlace(0, 0), 0);
        x.remove(0, 0);
        due("15: its only partner is gone", x.bestPlace(1, 3), NONE);
        due("15: removed", x.bestPlace(0, 0), NONE);
    }

    private static void promise16Order() {
        for (int list = 0; list < 2; list++) {
            BestPairs full = withFullList(list);
            due("16: key below", full.enter(list, -1, 0), NONE);
            due("16: key above", full.enter(list, 8, 0), NONE);
            due("16: score below", full.enter(list, 0, -1), NONE);
            due("16: score above", full.enter(list, 0, 1001), NONE);
            due("16: full", full.enter(list, 7, 1000), FULL);
        }
        due("16: list", withFullList(1).enter(2, 0, 0), NONE);
    }

    private static BestPairs withCursorMoved() {
        BestPairs x = withFourPairs();
        x.next();
        x.next();
        return x;
    }

    private static void dueAtStart(String what, BestPairs x) {
        due(what + ": passed()", x.passed(), 0);
        due(what + ": lastValue()", x.lastValue(), NONE);
        int first = x.pairAt(0);
        due(what + ": next()", x.next(), first);
    }

    private static void cursorGoesBackAtEachChange() {
        BestPairs x = withCursorMoved();
        x.enter(0, 0, 0);
        dueAtStart("enter that makes no pair", x);
        x = withCursorMoved();
        x.enter(1, 6, 1);
        dueAtStart("enter that makes a pair", x);
        x = withCursorMoved();
        x.remove(0, 2);
        dueAtStart("remove of an entry in no pair", x);
        x = withCursorMoved();
        x.remove(1, 1);
        dueAtStart("remove of an entry in a pair", x);
        x = withCursorMoved();
        x.rescore(0, 0, 20);
        dueAtStart("rescore to the same score", x);
        x = withCursorMoved();
        x.rescore(1, 3, 999);
        dueAtStart("rescore to another score", x);
        x = withCursorMoved();
        x.weigh(0, 1);
        dueAtStart("weigh with the same weight", x);
        x = withCursorMoved();
        x.weigh(1, 4);
        dueAtStart("weigh with another weight", x);
    }

    private static void cursorStaysWhenNothingIsChanged() {
        BestPairs x = withCursorMoved();
        x.enter(2, 0, 0);
        x.enter(0, 8, 0);
        x.enter(0, 0, 1001);
        due("refused enter: passed()", x.passed(), 2);
        x.remove(0, 3);
        x.remove(2, 0);
        due("refused remove: passed()", x.passed(), 2);
        x.rescore(0, 3, 1);
        x.rescore(0, 0, 1001);
        due("refused rescore: passed()", x.passed(), 2);
        x.weigh(2, 1);
        x.weigh(0, 10);
        due("refused weigh: passed()", x.passed(), 2);
        x.entries(0);
        x.score(0, 0);
        due("entries, score: passed()", x.passed(), 2);
        due("the next pair", x.next(), 18);
        BestPairs full = withFullList(0);
        full.enter(1, 0, 5);
        full.next();
        full.enter(0, 0, 0);
        due("enter into a full list: passed()", full.passed(), 1);
    }
}
