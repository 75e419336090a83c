/** Promise 18, about(thing, what): "NEXT thing (1; NO without) .. 1 if it is in ANTICHAIN 0, else 0 (3) .. BAD". */
public final class Promise18AboutTest {
    private static final int BAD = PairBench.BAD;
    private static final int NO = PairBench.NO;

    public static void main(String[] args) {
        Sentences.run(Promise18AboutTest.class);
    }

    private static void about(Check check, String name, PairBench bench, int what, int... want) {
        for (int thing = 0; thing < want.length; thing++) {
            check.due(name + ": about(" + thing + ", " + what + ")", bench.about(thing, what), want[thing]);
        }
    }

    static void promise18BadNoSuchThing(Check check) {
        PairBench bench = Build.line(3);
        for (int thing : Wrong.beside(3)) {
            for (int what = 0; what <= 4; what++) {
                check.due("about(" + thing + ", " + what + ")", bench.about(thing, what), BAD);
            }
        }
    }

    static void promise18BadNoSuchWhat(Check check) {
        PairBench bench = Build.line(3);
        for (int what : Wrong.beside(5)) {
            check.due("about(0, " + what + ")", bench.about(0, what), BAD);
            check.due("about(2, " + what + ")", bench.about(2, what), BAD);
        }
    }

    static void promise18BadNeither(Check check) {
        PairBench bench = Build.line(3);
        for (int number : Wrong.beside(5)) {
            check.due("about(" + number + ", " + number + ")", bench.about(number, number), BAD);
        }
        check.due("about(3, 5)", bench.about(3, 5), BAD);
        PairBench full = Build.things(40);
        check.due("about(40, 0)", full.about(40, 0), BAD);
        check.due("about(39, 0)", full.about(39, 0), 39);
    }

    static void promise18BadOfNodesThatAreNoThings(Check check) {
        PairBench bench = Build.lonePairs(3);
        for (int what = 0; what <= 4; what++) {
            check.due("about(0, " + what + ")", bench.about(0, what), BAD);
        }
    }

    static void promise18NextNoWithout(Check check) {
        about(check, "one thing", Build.things(1), 1, NO);
        about(check, "apart", Build.things(3), 1, NO, NO, NO);
        about(check, "the top of a line", Build.line(3), 1, 1, 2, NO);
        about(check, "two below one", Build.things(3, 0, 2, 1, 2), 1, 2, NO, NO);
        about(check, "one below two", Build.things(3, 0, 2, 0, 1), 1, 1, NO, NO);
    }

    static void promise18OneThing(Check check) {
        PairBench bench = Build.things(1);
        int[] want = {0, NO, 0, 1, 1};
        for (int what = 0; what <= 4; what++) {
            check.due("about(0, " + what + ")", bench.about(0, what), want[what]);
        }
    }

    static void promise18ChainsNumberedByTheirFirstThings(Check check) {
        about(check, "apart", Build.things(3), 0, 0, 1, 2);
        // 3 below 0; 1 apart; 2 below 4: first things 1, 2, 3.
        about(check, "first things 1, 2, 3", Build.things(5, 3, 0, 2, 4), 0, 2, 0, 1, 2, 1);
        about(check, "one chain downwards", Build.things(3, 2, 1, 1, 0), 0, 0, 0, 0);
    }

    static void promise18LevelZeroOfTheLowest(Check check) {
        about(check, "apart", Build.things(3), 2, 0, 0, 0);
        about(check, "a line", Build.line(4), 2, 0, 1, 2, 3);
        about(check, "the longer way counts", Build.things(4, 0, 3, 1, 2, 2, 3), 2, 0, 0, 1, 2);
    }

    static void promise18Antichain0ElseZero(Check check) {
        about(check, "apart", Build.things(3), 3, 1, 1, 1);
        about(check, "a line has its lowest", Build.line(3), 3, 1, 0, 0);
        about(check, "two below one", Build.things(3, 0, 2, 1, 2), 3, 1, 1, 0);
        about(check, "one below two", Build.things(3, 0, 1, 0, 2), 3, 0, 1, 1);
    }

    static void promise18Antichain1ElseZero(Check check) {
        about(check, "apart", Build.things(3), 4, 1, 1, 1);
        about(check, "a line has its highest", Build.line(3), 4, 0, 0, 1);
        about(check, "two below one", Build.things(3, 0, 2, 1, 2), 4, 1, 1, 0);
        about(check, "one below two", Build.things(3, 0, 1, 0, 2), 4, 0, 1, 1);
    }

    static void promise18FortyInLine(Check check) {
        PairBench bench = Build.line(40);
        for (int thing = 0; thing < 40; thing++) {
            check.due("chain of " + thing, bench.about(thing, 0), 0);
            check.due("next of " + thing, bench.about(thing, 1), thing == 39 ? NO : thing + 1);
            check.due("level of " + thing, bench.about(thing, 2), thing);
            check.due("antichain 0 and " + thing, bench.about(thing, 3), thing == 0 ? 1 : 0);
            check.due("antichain 1 and " + thing, bench.about(thing, 4), thing == 39 ? 1 : 0);
        }
    }

    static void promise18FortyApart(Check check) {
        PairBench bench = Build.things(40);
        for (int thing = 0; thing < 40; thing++) {
            check.due("chain of " + thing, bench.about(thing, 0), thing);
            check.due("next of " + thing, bench.about(thing, 1), NO);
            check.due("level of " + thing, bench.about(thing, 2), 0);
            check.due("antichain 0 and " + thing, bench.about(thing, 3), 1);
            check.due("antichain 1 and " + thing, bench.about(thing, 4), 1);
        }
    }

    static void promise18AskingChangesNothing(Check check) {
        PairBench bench = Build.diamond();
        String before = Look.things(bench);
        for (int number : Wrong.beside(5)) {
            bench.about(number, 0);
            bench.about(0, number);
            bench.below(number, 0);
        }
        check.due("after refused questions", Look.things(bench), before);
    }
}
