/** Promise 16, tell(a, b): "1 if that is new .., else 0. BAD: no such things; NO: b is a, or BELOW it". */
public final class Promise16TellTest {
    private static final int BAD = PairBench.BAD;
    private static final int NO = PairBench.NO;

    public static void main(String[] args) {
        Sentences.run(Promise16TellTest.class);
    }

    static void promise16OneIfThatIsNew(Check check) {
        PairBench bench = Build.things(4);
        check.due("tell(0, 1)", bench.tell(0, 1), 1);
        check.due("tell(3, 2)", bench.tell(3, 2), 1);
        check.due("tell(1, 3)", bench.tell(1, 3), 1);
    }

    static void promise16ElseZeroToldBefore(Check check) {
        PairBench bench = Build.things(2, 1, 0);
        check.due("tell(1, 0) again", bench.tell(1, 0), 0);
        check.due("and once more", bench.tell(1, 0), 0);
        check.due("it stays", bench.below(1, 0), true);
    }

    static void promise16ElseZeroWhereItFollows(Check check) {
        PairBench bench = Build.line(40);
        check.due("tell(0, 2)", bench.tell(0, 2), 0);
        check.due("tell(0, 39)", bench.tell(0, 39), 0);
        check.due("tell(37, 39)", bench.tell(37, 39), 0);
        PairBench joined = Build.things(4, 2, 3, 0, 1, 1, 2);
        check.due("what was below the lower one follows", joined.tell(0, 2), 0);
        check.due("what was above the upper one follows", joined.tell(1, 3), 0);
        check.due("one for the other too", joined.tell(0, 3), 0);
    }

    static void promise16BadNoSuchLowerThing(Check check) {
        PairBench bench = Build.things(3);
        for (int a : Wrong.beside(3)) {
            check.due("tell(" + a + ", 0)", bench.tell(a, 0), BAD);
            check.due("tell(" + a + ", 2)", bench.tell(a, 2), BAD);
        }
    }

    static void promise16BadNoSuchUpperThing(Check check) {
        PairBench bench = Build.things(3);
        for (int b : Wrong.beside(3)) {
            check.due("tell(0, " + b + ")", bench.tell(0, b), BAD);
            check.due("tell(2, " + b + ")", bench.tell(2, b), BAD);
        }
    }

    static void promise16BadBeforeNo(Check check) {
        PairBench bench = Build.things(3);
        for (int thing : Wrong.beside(3)) {
            check.due("tell(" + thing + ", " + thing + ")", bench.tell(thing, thing), BAD);
        }
    }

    static void promise16BadChangesNothing(Check check) {
        PairBench bench = Build.diamond();
        String before = Look.things(bench);
        for (int thing : Wrong.beside(5)) {
            bench.tell(thing, 2);
            bench.tell(2, thing);
        }
        check.due("after refused calls", Look.things(bench), before);
        bench.thing();
        check.due("it is not kept for a later thing", bench.below(5, 2) || bench.below(2, 5), false);
    }

    static void promise16NoBIsA(Check check) {
        PairBench bench = Build.line(40);
        for (int thing = 0; thing < 40; thing++) {
            check.due("tell(" + thing + ", " + thing + ")", bench.tell(thing, thing), NO);
        }
        check.due("the only thing", Build.things(1).tell(0, 0), NO);
    }

    static void promise16NoBIsBelowIt(Check check) {
        PairBench bench = Build.things(3, 1, 2);
        check.due("told before", bench.tell(2, 1), NO);
        bench.tell(0, 1);
        check.due("tell(1, 0)", bench.tell(1, 0), NO);
        check.due("it follows", bench.tell(2, 0), NO);
        PairBench full = Build.line(40);
        check.due("tell(39, 0)", full.tell(39, 0), NO);
        check.due("tell(39, 38)", full.tell(39, 38), NO);
        check.due("tell(1, 0)", full.tell(1, 0), NO);
    }

    static void promise16NoChangesNothing(Check check) {
        PairBench bench = Build.diamond();
        String before = Look.things(bench);
        for (int thing = 0; thing < 5; thing++) {
            check.due("tell of one and itself", bench.tell(thing, thing), NO);
        }
        check.due("tell(0, 3)", bench.tell(0, 3), NO);
        check.due("tell(1, 3)", bench.tell(1, 3), NO);
        check.due("tell(0, 4)", bench.tell(0, 4), NO);
        check.due("after refused calls", Look.things(bench), before);
    }

    static void promise16NothingComesToBeBelowItself(Check check) {
        PairBench bench = Build.things(6);
        for (int a = 0; a < 6; a++) {
            for (int b = 0; b < 6; b++) {
                bench.tell(a, b);
                bench.tell((a + 1) % 6, a);
            }
        }
        for (int a = 0; a < 6; a++) {
            check.due("below(" + a + ", " + a + ")", bench.below(a, a), false);
            for (int b = 0; b < 6; b++) {
                check.due("both ways " + a + ", " + b, bench.below(a, b) && bench.below(b, a), false);
            }
        }
    }

    static void promise16LastOf40Things(Check check) {
        PairBench bench = Build.things(40);
        check.due("tell(39, 0)", bench.tell(39, 0), 1);
        check.due("tell(38, 39)", bench.tell(38, 39), 1);
        check.due("tell(38, 0) follows", bench.tell(38, 0), 0);
        check.due("tell(0, 38)", bench.tell(0, 38), NO);
        check.due("tell(40, 0)", bench.tell(40, 0), BAD);
        check.due("tell(39, 40)", bench.tell(39, 40), BAD);
    }
}
