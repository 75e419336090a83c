/** Promise 17, below(a, b): "false without such things", and of the terms "Nothing comes to be below itself". */
public final class Promise17BelowTest {
    public static void main(String[] args) {
        Sentences.run(Promise17BelowTest.class);
    }

    static void promise17FalseWithoutSuchLowerThing(Check check) {
        PairBench bench = Build.line(3);
        for (int a : Wrong.beside(3)) {
            for (int b = 0; b < 3; b++) {
                check.due("below(" + a + ", " + b + ")", bench.below(a, b), false);
            }
        }
    }

    static void promise17FalseWithoutSuchUpperThing(Check check) {
        PairBench bench = Build.line(3);
        for (int b : Wrong.beside(3)) {
            for (int a = 0; a < 3; a++) {
                check.due("below(" + a + ", " + b + ")", bench.below(a, b), false);
            }
        }
    }

    static void promise17FalseWithoutSuchThingsTwice(Check check) {
        PairBench bench = Build.line(3);
        for (int thing : Wrong.beside(3)) {
            check.due("below(" + thing + ", " + thing + ")", bench.below(thing, thing), false);
        }
    }

    static void promise17FalseBeside40Things(Check check) {
        PairBench bench = Build.line(40);
        for (int thing : Wrong.beside(40)) {
            check.due("below(" + thing + ", 39)", bench.below(thing, 39), false);
            check.due("below(0, " + thing + ")", bench.below(0, thing), false);
        }
        check.due("below(0, 39)", bench.below(0, 39), true);
        check.due("below(38, 39)", bench.below(38, 39), true);
        check.due("below(39, 0)", bench.below(39, 0), false);
    }

    static void promise17NothingIsBelowItself(Check check) {
        PairBench bench = Build.line(40);
        for (int thing = 0; thing < 40; thing++) {
            check.due("below(" + thing + ", " + thing + ")", bench.below(thing, thing), false);
        }
        check.due("the only thing", Build.things(1).below(0, 0), false);
    }

    static void promise17FalseWhereNothingWasTold(Check check) {
        PairBench bench = Build.things(3, 0, 1, 2, 1);
        check.due("two below one", bench.below(0, 2), false);
        check.due("the other way", bench.below(2, 0), false);
        PairBench above = Build.things(3, 0, 1, 0, 2);
        check.due("two above one", above.below(1, 2), false);
        check.due("the other way", above.below(2, 1), false);
    }

    static void promise17FalseWhenCleared(Check check) {
        PairBench bench = Build.line(3);
        bench.clearThings();
        check.due("below(0, 1) without things", bench.below(0, 1), false);
        Build.addThings(bench, 3);
        check.due("below(0, 1) of new things", bench.below(0, 1), false);
        check.due("below(0, 2) of new things", bench.below(0, 2), false);
    }

    static void promise17EdgesTellNothing(Check check) {
        PairBench bench = Build.complete(3, 3);
        check.due("no things", bench.below(0, 1), false);
        Build.addThings(bench, 3);
        check.due("things apart", bench.below(0, 1), false);
        bench.tell(0, 1);
        bench.edge(0, 1, false);
        check.due("an edge gone", bench.below(0, 1), true);
    }
}
