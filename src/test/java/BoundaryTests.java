import java.lang.annotation.Retention;
import java.lang.annotation.RetentionPolicy;
import java.lang.reflect.InvocationTargetException;
import java.lang.reflect.Method;
import java.util.ArrayList;
import java.util.Comparator;
import java.util.List;

/**
 * A test for each sentence of the document that names a boundary case: too small, too large, empty, full, a refused
 * call. What stands before a test says which section or promise and which of its words it is of.
 */
public final class BoundaryTests extends Checks {
    @Retention(RetentionPolicy.RUNTIME)
    private @interface Of {
        String value();

        String says();
    }

    /** What is no function, and no place among a few. */
    private static final int[] NO_FUNCTIONS = {-1, 4, 5, FEW, MANY};

    // What it is

    @Of(value = "What it is", says = "An object is used for at most 512 calls after it has been made")
    private static void call512IsAnswered() {
        PatternForge x = with(0, 1);
        row(x, 0, "w w");
        give(x, "1 0");
        // Two constructors, three for the row, three for the argument: 8 calls.
        for (int call = 9; call <= 510; call++) {
            due("run, call " + call, x.run(0), OK);
        }
        due("steps, call 511", x.ran(1), 1);
        due("result, call 512", x.result(1), 0);
    }

    @Of(value = "What it is", says = "what later calls answer is free")
    private static void laterCallsEnd() {
        PatternForge x = with(0, 1, 2);
        row(x, 0, "w 2 w F w");
        row(x, 1, "w G w");
        // Free are the answers; that no call fails is a rule of the language.
        for (int i = 0; i < 300; i++) {
            everyCall(x, i % 4, i % 7 - 1);
        }
    }

    private static void everyCall(PatternForge x, int f, int k) {
        x.con(k);
        x.token(CON, 0);
        x.give();
        x.run(f);
        x.result(k);
        x.ran(k);
        x.use();
        x.taken(f);
        x.token(k, f);
        x.count(f, k, k);
        x.useless(f);
        x.open(f);
        x.witness(f, k);
        x.row(f);
        if (k == 5) {
            x.drop(f);
        }
    }

    @Of(value = "The public face", says = "REFUSED = -1, WRONG = -2, OK = 0, STUCK = 1, LONG = 2, BIG = 3")
    private static void constants() {
        due("REFUSED", PatternForge.REFUSED, -1);
        due("WRONG", PatternForge.WRONG, -2);
        due("OK", PatternForge.OK, 0);
        due("STUCK", PatternForge.STUCK, 1);
        due("LONG", PatternForge.LONG, 2);
        due("BIG", PatternForge.BIG, 3);
    }

    // Terms: constructors and values

    @Of(value = "Terms", says = "CONSTRUCTORS 0 .. 5, in the order in which they were made")
    private static void constructorsZeroToFive() {
        PatternForge x = new PatternForge();
        for (int c = 0; c <= 5; c++) {
            due("con " + c, x.con(0), c);
        }
        row(x, 0, "5 0");
        row(x, 0, "0 5");
        due("the last one", run(x, 0, "5"), OK);
        same("its result", resultOf(x), "0");
        due("the first one", run(x, 0, "0"), OK);
        same("its result", resultOf(x), "5");
    }

    @Of(value = "Terms", says = "have an ARITY 0 .. 2")
    private static void aritiesZeroToTwo() {
        PatternForge x = new PatternForge();
        due("arity 2", x.con(2), 0);
        due("arity 0", x.con(0), 1);
        due("arity 1", x.con(1), 2);
        due("none", give(x, "1"), 1);
        due("one", give(x, "2 1"), 2);
        due("two", give(x, "0 1 1"), 3);
    }

    @Of(value = "Terms", says = "A VALUE is a constructor with as many values")
    private static void valueWithTooFewOrTooMany() {
        PatternForge x = with(0, 1, 2);
        due("0 with none", give(x, "0"), 1);
        due("0 with one", give(x, "0 0"), WRONG);
        due("1 with none", give(x, "1"), WRONG);
        due("1 with one", give(x, "1 0"), 2);
        due("1 with two", give(x, "1 0 0"), WRONG);
        due("2 with none", give(x, "2"), WRONG);
        due("2 with one", give(x, "2 0"), WRONG);
        due("2 with two", give(x, "2 0 0"), 3);
        due("2 with three", give(x, "2 0 0 0"), WRONG);
        due("an inner one with too few", give(x, "2 0 1"), WRONG);
        due("an inner one with too many", give(x, "2 1 0 0 0"), WRONG);
    }

    @Of(value = "Terms", says = "its SIZE is how many constructors it has")
    private static void sizesOneAndForty() {
        PatternForge x = with(0, 1, 2);
        row(x, 0, "w w");
        due("one", give(x, "0"), 1);
        x.run(0);
        due("one", x.ran(0), 1);
        // A chain of 19 pairs, to the right and to the left, and one above.
        due("to the right", give(x, "1" + "20".repeat(19) + "0"), 40);
        x.run(0);
        due("to the right", x.ran(0), 40);
        due("to the left", give(x, "1" + "2".repeat(19) + "0".repeat(20)), 40);
        x.run(0);
        due("to the left", x.ran(0), 40);
    }

    @Of(value = "Terms", says = "each before those of its values, these from the first on")
    private static void listOfUnlikeParts() {
        PatternForge x = with(0, 1, 2, 0);
        row(x, 0, "2 w x w");
        row(x, 1, "2 w x x");
        due("the first", run(x, 0, "2 2 0 3 1 3"), OK);
        same("the first", resultOf(x), "203");
        due("the second", x.run(1), OK);
        same("the second", resultOf(x), "13");
    }

    @Of(value = "Terms", says = "so a LIST of constructors is a value or none")
    private static void everyShortList() {
        int[] values = {0, 1, 1, 2, 4, 9};
        int lists = 1;
        for (int length = 0; length <= 5; length++) {
            int found = 0;
            for (int list = 0; list < lists; list++) {
                PatternForge x = with(0, 1, 2);
                int rest = list;
                for (int i = 0; i < length; i++) {
                    x.token(CON, rest % 3);
                    rest /= 3;
                }
                int answer = x.give();
                if (answer == WRONG) {
                    continue;
                }
                due("the size of a list of " + length, answer, length);
                found++;
            }
            due("values of size " + length, found, values[length]);
            lists *= 3;
        }
    }

    // Terms: patterns

    @Of(value = "Terms", says = "A PATTERN is a prefix list of at most 12 of them")
    private static void patternOf12And13() {
        PatternForge x = with(0, 1, 2);
        due("12", row(x, 0, "1".repeat(11) + "_ 0"), 1);
        due("13", row(x, 0, "1".repeat(12) + "_ 0"), WRONG);
        due("13 that are pairs", row(x, 0, "2_".repeat(6) + "_ 0"), WRONG);
        due("11 that are pairs", row(x, 0, "2_".repeat(5) + "_ 0"), 2);
        due("12 with OR", row(x, 0, "|_".repeat(5) + "! _ 0"), 3);
        due("13 with OR", row(x, 0, "|_".repeat(6) + "_ 0"), WRONG);
        due("12 with NOT", row(x, 0, "!".repeat(11) + "_ 0"), 4);
        due("13 with NOT", row(x, 0, "!".repeat(12) + "_ 0"), WRONG);
        due("39", row(x, 0, "1".repeat(38) + "_ 0"), WRONG);
    }

    @Of(value = "Terms", says = "A PATTERN is a prefix list of at most 12 of them")
    private static void patternOf12IsTried() {
        PatternForge x = with(0, 1);
        row(x, 0, "1".repeat(11) + "0 0");
        for (int size = 11; size <= 13; size++) {
            give(x, tower(size));
            due("of size " + size, x.taken(0), size == 12 ? 0 : -1);
        }
    }

    @Of(value = "Terms", says = "CON with as many patterns as its arity")
    private static void patternConWithTooFewOrTooMany() {
        PatternForge x = with(0, 1, 2);
        // What is too many is read as the result, and what comes after it is one token more.
        due("0 with none", row(x, 0, "0 0"), 1);
        due("0 with one", row(x, 0, "0 _ 0"), WRONG);
        due("1 with none", row(x, 0, "1 0"), WRONG);
        due("1 with one", row(x, 0, "1 _ 0"), 2);
        due("1 with two", row(x, 0, "1 0 0 0"), WRONG);
        due("2 with one", row(x, 0, "2 _ 0"), WRONG);
        due("2 with two", row(x, 0, "2 _ _ 0"), 3);
        due("2 with three", row(x, 0, "2 0 0 0 0"), WRONG);
        due("an inner one with one", row(x, 0, "2 2 _ _ 0"), WRONG);
    }

    @Of(value = "Terms", says = "OR with two")
    private static void patternOrWithTooFewOrTooMany() {
        PatternForge x = with(0, 1, 2);
        due("with none", row(x, 0, "| 0"), WRONG);
        due("with one", row(x, 0, "| 0 0"), WRONG);
        due("with two", row(x, 0, "| 0 0 0"), 1);
        due("with three", row(x, 0, "| 0 0 0 0"), WRONG);
    }

    @Of(value = "Terms", says = "NOT with one")
    private static void patternNotWithTooFewOrTooMany() {
        PatternForge x = with(0, 1, 2);
        due("with none", row(x, 0, "!"), WRONG);
        due("with none, but a result", row(x, 0, "! 0"), WRONG);
        due("with one", row(x, 0, "! 0 0"), 1);
        due("with two", row(x, 0, "! 0 0 0"), WRONG);
    }

    @Of(value = "Terms", says = "No VAR is in it twice")
    private static void variableTwice() {
        PatternForge x = with(0, 1, 2);
        for (String v : new String[] {"w", "x", "y", "z"}) {
            due(v + " twice", row(x, 0, "2" + v + v + "0"), WRONG);
            due(v + " twice, far", row(x, 0, "2" + v + "2 0 1" + v + "0"), WRONG);
        }
        due("four of them", row(x, 0, "2 2 w x 2 y z 0"), 1);
        due("four of them, one twice", row(x, 0, "2 2 w x 2 y 2 z w 0"), WRONG);
        due("twice in the result alone", row(x, 0, "w 2 w w"), 2);
    }

    @Of(value = "Terms", says = "none inside of an OR or NOT")
    private static void variableInsideOfOrOrNot() {
        PatternForge x = with(0, 1, 2);
        due("the first of OR", row(x, 0, "| w 0 0"), WRONG);
        due("the second of OR", row(x, 0, "| 0 w 0"), WRONG);
        due("both of OR", row(x, 0, "| w w w"), WRONG);
        due("deep in OR", row(x, 0, "| 0 1 1 w 0"), WRONG);
        due("in NOT", row(x, 0, "! w 0"), WRONG);
        due("deep in NOT", row(x, 0, "! 2 0 w 0"), WRONG);
        due("in NOT in NOT", row(x, 0, "! ! w 0"), WRONG);
        due("in OR after NOT", row(x, 0, "| ! 0 w 0"), WRONG);
        due("in OR after OR", row(x, 0, "| | 0 0 w 0"), WRONG);
        due("before OR", row(x, 0, "2 w | 0 0 w"), 1);
        due("right after OR", row(x, 0, "2 | 0 | 0 0 w w"), 2);
        due("before NOT", row(x, 0, "2 w ! 0 w"), 3);
        due("right after NOT", row(x, 0, "2 ! ! 0 w w"), 4);
    }

    @Of(value = "Terms", says = "A PATTERN is a prefix list of at most 12 of them: ANY; VAR; CON")
    private static void callInPattern() {
        PatternForge x = with(0, 1, 2);
        due("at first", row(x, 0, "F 0 0"), WRONG);
        due("inside of CON", row(x, 0, "1 F 0 0"), WRONG);
        due("inside of OR", row(x, 0, "| 0 F 0 0"), WRONG);
        due("inside of NOT", row(x, 0, "! F 0 0"), WRONG);
        due("without it", row(x, 0, "! 1 0 0"), 1);
    }

    @Of(value = "Terms", says = "ANY and VAR match each value")
    private static void anyAndVarMatchSmallestAndLargest() {
        PatternForge x = with(0, 1);
        row(x, 0, "_ 0");
        row(x, 1, "z z");
        for (int size = 1; size <= 40; size += 39) {
            give(x, tower(size));
            due("ANY, size " + size, x.taken(0), 0);
            due("VAR, size " + size, x.taken(1), 0);
            due("what it stands for", x.run(1), OK);
            same("what it stands for", resultOf(x), tower(size));
        }
    }

    @Of(value = "Terms", says = "CON one of this constructor whose values match")
    private static void conMatchesWithNoneOneOrTwoValues() {
        PatternForge x = with(0, 1, 2, 0);
        row(x, 0, "0 0");
        row(x, 0, "1 3 0");
        row(x, 0, "2 0 3 0");
        String[] values = {"0", "3", "1 3", "1 0", "2 0 3", "2 3 0", "2 0 0", "2 3 3"};
        int[] rows = {0, -1, 1, -1, 2, -1, -1, -1};
        for (int i = 0; i < values.length; i++) {
            give(x, values[i]);
            due(values[i], x.taken(0), rows[i]);
        }
    }

    @Of(value = "Terms", says = "OR what one of both matches")
    private static void orMatchesByEitherAndByBoth() {
        PatternForge x = with(0, 0, 0, 0);
        row(x, 0, "| 0 1 0");
        row(x, 1, "| _ 2 0");
        String[] values = {"0", "1", "3"};
        int[] rows = {0, 0, -1};
        for (int i = 0; i < values.length; i++) {
            give(x, values[i]);
            due(values[i], x.taken(0), rows[i]);
        }
        give(x, "2");
        due("both", x.taken(1), 0);
        due("neither", x.taken(0), -1);
    }

    @Of(value = "Terms", says = "OR what one of both matches, NOT what does not match")
    private static void orAndNotAtTheLastPlace() {
        PatternForge x = with(0, 1, 2, 0);
        row(x, 0, "2 _ | 0 3 0");
        row(x, 0, "2 _ ! 1 _ 0");
        String[] values = {"2 1 1 0 0", "2 1 1 0 3", "2 0 1 0", "2 3 1 3", "2 3 2 0 1 0", "2 1 0 0"};
        int[] rows = {0, 0, -1, -1, 1, 0};
        for (int i = 0; i < values.length; i++) {
            give(x, values[i]);
            due(values[i], x.taken(0), rows[i]);
        }
    }

    @Of(value = "Terms", says = "NOT what does not match")
    private static void notMatchesAllOrNothing() {
        PatternForge x = with(0, 1);
        row(x, 0, "! _ 0");
        row(x, 1, "! ! _ 0");
        row(x, 2, "! 0 0");
        give(x, "0");
        due("NOT ANY", x.taken(0), -1);
        due("NOT NOT ANY", x.taken(1), 0);
        due("NOT 0 of 0", x.taken(2), -1);
        give(x, "1 0");
        due("NOT 0 of 1", x.taken(2), 0);
    }

    // Terms: results

    @Of(value = "Terms", says = "A RESULT is one of at most 12")
    private static void resultOf12And13() {
        PatternForge x = with(0, 1, 2);
        due("12", row(x, 0, "_" + tower(12)), 1);
        due("13", row(x, 0, "_" + tower(13)), WRONG);
        due("13 that are pairs", row(x, 0, "w" + "2w".repeat(6) + "w"), WRONG);
        due("12 with pairs", row(x, 1, "w" + "2w".repeat(5) + "1 w"), 1);
        due("12 with CALLs", row(x, 0, "w" + "F".repeat(11) + "w"), 2);
        due("13 with CALLs", row(x, 0, "w" + "F".repeat(12) + "w"), WRONG);
        due("39", row(x, 0, "_" + tower(39)), WRONG);
        due("12 and 12", row(x, 0, "1".repeat(11) + "_" + tower(12)), 3);
        due("12 and 13", row(x, 0, "1".repeat(11) + "_" + tower(13)), WRONG);
        due("13 and 12", row(x, 0, "1".repeat(12) + "_" + tower(12)), WRONG);
        due("its run", run(x, 1, "0"), OK);
        same("of the 12", resultOf(x), "20".repeat(5) + "10");
    }

    @Of(value = "Terms", says = "VAR (one that is in the pattern)")
    private static void variableThatIsNotInThePattern() {
        PatternForge x = with(0, 1, 2);
        due("none is", row(x, 0, "_ w"), WRONG);
        due("another is", row(x, 0, "w x"), WRONG);
        due("all others are", row(x, 0, "2 w 2 x y z"), WRONG);
        due("one is, one is not", row(x, 0, "w 2 w z"), WRONG);
        due("it is", row(x, 0, "2 w 2 x y y"), 1);
        // Nor does one of an earlier row help.
        due("it is in another row", row(x, 0, "w y"), WRONG);
    }

    @Of(value = "Terms", says = "CON with results; CALL with one")
    private static void resultConOrCallWithTooFewOrTooMany() {
        PatternForge x = with(0, 1, 2);
        due("0 with one", row(x, 0, "_ 0 0"), WRONG);
        due("1 with none", row(x, 0, "_ 1"), WRONG);
        due("1 with two", row(x, 0, "_ 1 0 0"), WRONG);
        due("2 with one", row(x, 0, "_ 2 0"), WRONG);
        due("2 with three", row(x, 0, "_ 2 0 0 0"), WRONG);
        due("CALL with none", row(x, 0, "_ F"), WRONG);
        due("CALL with two", row(x, 0, "_ F 0 0"), WRONG);
        due("CALL with half of one", row(x, 0, "_ F 2 0"), WRONG);
        due("VAR with one", row(x, 0, "w w w"), WRONG);
        due("as many as is due", row(x, 0, "_ 2 1 0 F 0"), 1);
    }

    @Of(value = "Terms", says = "VAR (one that is in the pattern); CON with results; CALL with one.")
    private static void anyOrNotInResult() {
        PatternForge x = with(0, 1, 2);
        due("ANY", row(x, 0, "w _"), WRONG);
        due("OR", row(x, 0, "w | w w"), WRONG);
        due("NOT", row(x, 0, "w ! w"), WRONG);
        due("ANY inside of CON", row(x, 0, "w 1 _"), WRONG);
        due("NOT inside of CALL", row(x, 0, "w F ! w"), WRONG);
        due("OR inside of CON", row(x, 0, "w 1 | w w"), WRONG);
        due("ANY at last", row(x, 0, "w 2 w _"), WRONG);
    }

    // Terms: functions and calls

    @Of(value = "Terms", says = "FUNCTIONS 0 .. 3")
    private static void functionsZeroToThree() {
        PatternForge x = with(0, 0, 0, 0, 0);
        for (int f = 0; f <= 3; f++) {
            due("row of " + f, row(x, f, "_ " + (f + 1)), 1);
        }
        give(x, "0");
        for (int f = 0; f <= 3; f++) {
            due("run of " + f, x.run(f), OK);
            due("it is its own row", x.result(0), f + 1);
        }
        for (int f = 0; f <= 3; f++) {
            due("drop of " + f, x.drop(f), 1);
        }
    }

    @Of(value = "Terms", says = "FUNCTIONS 0 .. 3 have at most 5 ROWS")
    private static void fiveRowsOfEachFunction() {
        PatternForge x = with(0, 0, 0, 0, 0, 0);
        for (int f = 0; f <= 3; f++) {
            for (int r = 0; r < 5; r++) {
                due("row of " + f, row(x, f, r + " " + (r + f) % 6), r + 1);
            }
            due("a sixth", row(x, f, "_ 0"), REFUSED);
            due("its draft", x.give(), WRONG);
        }
        for (int r = 0; r < 5; r++) {
            give(x, "" + r);
            for (int f = 0; f <= 3; f++) {
                due("row " + r + " of " + f, x.taken(f), r);
                x.run(f);
                due("its result", x.result(0), (r + f) % 6);
            }
        }
        give(x, "5");
        due("not a sixth", x.taken(0), -1);
    }

    /** Function 0 takes as many steps as its argument's size is; function 1 has it do so three times. */
    private static PatternForge counting() {
        PatternForge x = with(0, 1, 2);
        row(x, 0, "0 0");
        row(x, 0, "1 w F w");
        row(x, 1, "w 2 F w 2 F w F w");
        return x;
    }

    @Of(value = "Terms", says = "CALLING one with a value takes a STEP (LONG if 100 were taken before)")
    private static void hundredSteps() {
        PatternForge x = counting();
        due("one", run(x, 0, "0"), OK);
        due("one", x.ran(1), 1);
        due("100", run(x, 1, tower(33)), OK);
        due("100", x.ran(1), 100);
        due("103", run(x, 1, tower(34)), LONG);
        due("100 were taken", x.ran(1), 100);
    }

    @Of(value = "Terms", says = "(LONG if 100 were taken before)")
    private static void oneStepTooMany() {
        PatternForge x = counting();
        row(x, 2, "w G w");
        due("101 would be needed", run(x, 2, tower(33)), LONG);
        due("100 were taken", x.ran(1), 100);
        due("the 101st is of function 0", x.ran(2), 0);
        due("without the first one", x.run(1), OK);
    }

    @Of(value = "Terms", says = "(LONG if 100 were taken before)")
    private static void longBeforeStuck() {
        PatternForge x = counting();
        row(x, 2, "w I 2 F w 2 F w F w");
        due("the 101st call has no row", run(x, 2, tower(33)), LONG);
        due("it is of function 3", x.ran(2), 3);
        due("it is no step", x.ran(1), 100);
        due("the 98th call has no row", run(x, 2, tower(32)), STUCK);
        due("it is of function 3", x.ran(2), 3);
        due("it is a step", x.ran(1), 98);
    }

    @Of(value = "Terms", says = "takes a STEP (LONG if 100 were taken before)")
    private static void stepsStartAnew() {
        PatternForge x = counting();
        row(x, 3, "w I w");
        give(x, "0");
        for (int i = 0; i < 3; i++) {
            due("LONG", x.run(3), LONG);
            due("steps", x.ran(1), 100);
            due("OK", x.run(0), OK);
            due("steps", x.ran(1), 1);
        }
    }

    @Of(value = "Terms", says = "The first row whose pattern matches is TAKEN")
    private static void firstAndLastOfFiveRows() {
        PatternForge x = with(0, 1);
        row(x, 0, "1 1 _ 0");
        row(x, 0, "1 _ 1 0");
        row(x, 0, "! _ 0");
        row(x, 0, "1 0 0");
        row(x, 0, "_ 1 1 0");
        due("the fifth alone", run(x, 0, "0"), OK);
        same("the fifth", resultOf(x), "110");
        due("second, fourth and fifth", run(x, 0, "10"), OK);
        same("the second", resultOf(x), "10");
        due("first, second and fifth", run(x, 0, "110"), OK);
        same("the first", resultOf(x), "0");
    }

    @Of(value = "Terms", says = "if there is none the call is STUCK")
    private static void stuckWithFiveRowsOrNone() {
        PatternForge x = with(0, 1);
        give(x, "0");
        due("no rows", x.run(0), STUCK);
        for (int i = 0; i < 5; i++) {
            row(x, 0, "1 _ 0");
        }
        due("five rows", x.run(0), STUCK);
        row(x, 1, "w F w");
        due("a call within", x.run(1), STUCK);
        due("the stuck call is a step", x.ran(1), 2);
        due("of function 0", x.ran(2), 0);
    }

    @Of(value = "Terms", says = "What its VARs match they stand for")
    private static void variablesStandForSmallestAndLargest() {
        PatternForge x = with(0, 1, 2);
        row(x, 0, "2 w x w");
        row(x, 1, "2 w x x");
        due("one and 38", run(x, 0, "2 0" + tower(38)), OK);
        due("one", x.ran(0), 1);
        x.run(1);
        same("38", resultOf(x), tower(38));
        // All four at once, and each in a call that goes on while another binds the same ones.
        row(x, 2, "2 2 w x 2 y z 2 I w 2 I x 2 I y I z");
        row(x, 3, "1 w w");
        row(x, 3, "w 1 w");
        due("four", run(x, 2, "2 2 0 10 2 110 1110"), OK);
        same("each its own", resultOf(x), "2 10 2 0 2 10 110".replace(" ", ""));
    }

    @Of(value = "Terms", says = "What its VARs match they stand for")
    private static void variablesBesideOtherParts() {
        PatternForge x = with(0, 1, 2, 0);
        row(x, 0, "2 w _ w");
        row(x, 1, "2 w 2 | 0 1 _ ! 3 w");
        row(x, 2, "2 1 x 2 w 3 2 x w");
        due("before ANY", run(x, 0, "2 10 3"), OK);
        same("before ANY", resultOf(x), "10");
        due("before OR and NOT", run(x, 1, "2 13 2 10 0"), OK);
        same("before OR and NOT", resultOf(x), "13");
        due("after and before CON", run(x, 2, "2 1 10 2 0 3"), OK);
        same("after and before CON", resultOf(x), "2100");
    }

    @Of(value = "Terms", says = "What its VARs match they stand for")
    private static void variablesOfAnInnerCall() {
        PatternForge x = with(0, 1, 2, 0);
        row(x, 0, "2 w x G 2 x w");
        row(x, 1, "2 w x 2 x w");
        // The value of the inner call has another shape than the argument.
        due("turned around twice", run(x, 0, "2 0 2 10 3"), OK);
        same("turned around twice", resultOf(x), "202103");
        // The caller's own stand for the same after the call.
        x.drop(0);
        row(x, 0, "2 w x 2 G 2 x w 2 w x");
        due("around a call", run(x, 0, "2 10 3"), OK);
        same("around a call", resultOf(x), "2" + "2103" + "2103");
    }

    @Of(value = "Terms", says = "operands from the first to the last")
    private static void firstOperandThatFails() {
        PatternForge x = with(0, 1, 2);
        row(x, 0, "w 2 G w H w");
        row(x, 1, "1 _ 0");
        row(x, 2, "w H w");
        due("the first is stuck", run(x, 0, "0"), STUCK);
        due("function 1", x.ran(2), 1);
        due("the second was not called", x.ran(1), 2);
        due("the second is long", run(x, 0, "10"), LONG);
        due("function 2", x.ran(2), 2);
    }

    @Of(value = "Terms", says = "then CON makes a value of theirs (BIG if its size would be more than 40)")
    private static void valueOf40And41() {
        PatternForge x = with(0, 1, 2);
        row(x, 0, "w 1 w");
        row(x, 1, "2 w x 2 x 1 w");
        row(x, 2, "w w");
        due("39 and one", run(x, 0, tower(39)), OK);
        due("39 and one", x.ran(0), 40);
        due("40 and one", run(x, 0, tower(40)), BIG);
        due("40 as it is", x.run(2), OK);
        due("40 as it is", x.ran(0), 40);
        due("a pair of 40", run(x, 1, "2" + tower(19) + tower(19)), OK);
        due("a pair of 40", x.ran(0), 40);
        due("a pair of 41", run(x, 1, "2" + tower(20) + tower(19)), BIG);
        due("nothing came of it", x.ran(0), 0);
    }

    @Of(value = "Terms", says = "(BIG if its size would be more than 40)")
    private static void bigInBetween() {
        PatternForge x = with(0, 1, 2);
        // What is too large would have been thrown away by the call.
        row(x, 0, "w G 1 w");
        row(x, 1, "_ 0");
        due("41 in between", run(x, 0, tower(40)), BIG);
        due("of function 0", x.ran(2), 0);
        due("before the call", x.ran(1), 1);
        due("40 in between", run(x, 0, tower(39)), OK);
        due("thrown away", x.ran(0), 1);
        // The operands come first: the second is stuck before the pair is too large.
        row(x, 2, "w 2 w I w");
        due("stuck before it is too large", run(x, 2, tower(40)), STUCK);
        due("function 3", x.ran(2), 3);
    }

    // Promise 1

    @Of(value = "Promise 1", says = "No constructors")
    private static void newWithoutConstructors() {
        PatternForge x = new PatternForge();
        for (int v = 0; v <= 5; v++) {
            due("CON " + v, x.token(CON, v), REFUSED);
        }
        for (int size = 1; size <= 5; size++) {
            due("values of size " + size, x.count(0, -1, size), 0);
        }
        due("the first one", x.con(2), 0);
    }

    @Of(value = "Promise 1", says = "No constructors, rows")
    private static void newWithoutRows() {
        PatternForge x = new PatternForge();
        for (int f = 0; f <= 3; f++) {
            due("row 0 of " + f, x.count(f, 0, 1), REFUSED);
            due("useless rows of " + f, x.useless(f), 0);
            due("rows of " + f, x.drop(f), 0);
        }
    }

    @Of(value = "Promise 1", says = "No constructors, rows, argument")
    private static void newWithoutArgument() {
        PatternForge x = with(0);
        row(x, 0, "_ 0");
        due("run", x.run(0), REFUSED);
        due("taken", x.taken(0), REFUSED - 1);
    }

    @Of(value = "Promise 1", says = "the draft is empty")
    private static void newWithEmptyDraft() {
        due("the first token", new PatternForge().token(ANY, 0), 1);
        due("no row", new PatternForge().row(0), WRONG);
        due("no value", new PatternForge().give(), WRONG);
    }

    @Of(value = "Promise 1", says = "nothing was run")
    private static void newWithoutRun() {
        PatternForge x = new PatternForge();
        due("size", x.ran(0), REFUSED);
        due("steps", x.ran(1), REFUSED);
        due("function", x.ran(2), REFUSED);
        due("result", x.result(0), REFUSED);
        due("use", x.use(), REFUSED);
    }

    @Of(value = "Promise 1", says = "No constructors, rows, argument; the draft is empty; nothing was run.")
    private static void newBesideAnother() {
        PatternForge x = with(0);
        row(x, 0, "_ 0");
        run(x, 0, "0");
        x.token(ANY, 0);
        PatternForge y = new PatternForge();
        due("no row", y.drop(0), 0);
        due("no argument", y.taken(0), REFUSED - 1);
        due("no run", y.ran(1), REFUSED);
        due("no draft", y.token(ANY, 0), 1);
        due("no constructor", y.con(0), 0);
        due("the first one has its row", x.taken(0), 0);
        due("and its draft", x.token(ANY, 0), 2);
    }

    // Promise 2

    @Of(value = "Promise 2", says = "REFUSED if there are 6")
    private static void seventhConstructor() {
        PatternForge x = with(0, 0, 0, 0, 0);
        due("the sixth", x.con(0), 5);
        for (int arity = 0; arity <= 2; arity++) {
            due("a seventh", x.con(arity), REFUSED);
        }
        due("it is none", x.token(CON, 6), REFUSED);
        due("still six values", x.count(0, -1, 1), 6);
    }

    @Of(value = "Promise 2", says = "or the arity is none")
    private static void arityThatIsNone() {
        PatternForge x = new PatternForge();
        for (int arity : new int[] {-1, 3, 4, FEW, MANY}) {
            due("arity " + arity, x.con(arity), REFUSED);
        }
        due("none was made", x.token(CON, 0), REFUSED);
        due("the next one's number", x.con(0), 0);
        due("between", x.con(3), REFUSED);
        due("the next one's number", x.con(2), 1);
    }

    // Promise 3

    @Of(value = "Promise 3", says = "Appends a token to the draft: how many there are.")
    private static void firstAndFortiethToken() {
        PatternForge x = with(0, 1);
        for (int there = 1; there <= 40; there++) {
            due("token " + there, x.token(CON, there < 40 ? 1 : 0), there);
        }
        due("they are all there", x.give(), 40);
    }

    @Of(value = "Promise 3", says = "REFUSED if there are 40")
    private static void fortyFirstToken() {
        PatternForge x = with(0, 1);
        write(x, tower(40));
        for (int kind = ANY; kind <= CALL; kind++) {
            due("a 41st of kind " + kind, x.token(kind, 0), REFUSED);
        }
        due("the 40 stay", x.give(), 40);
        due("and then there is room", x.token(CON, 0), 1);
    }

    @Of(value = "Promise 3", says = "or kind or v (where it says something) is not as said")
    private static void kindThatIsNone() {
        PatternForge x = with(0);
        for (int kind : new int[] {-1, 6, 7, 8, FEW, MANY}) {
            due("kind " + kind, x.token(kind, 0), REFUSED);
        }
        due("none was appended", x.token(CON, 0), 1);
    }

    @Of(value = "Terms", says = "1 VAR v (0 .. 3)")
    private static void variableThatIsNone() {
        PatternForge x = with(0, 0, 0, 0, 0, 0);
        for (int v : new int[] {-1, 4, 5, FEW, MANY}) {
            due("VAR " + v, x.token(VAR, v), REFUSED);
        }
        for (int v = 0; v <= 3; v++) {
            due("VAR " + v, x.token(VAR, v), v + 1);
        }
    }

    @Of(value = "Terms", says = "2 CON v (a constructor)")
    private static void constructorThatIsNone() {
        PatternForge x = new PatternForge();
        for (int made = 0; made <= 6; made++) {
            for (int v : new int[] {-1, made, made + 1, 8, FEW, MANY}) {
                due("CON " + v + " of " + made, x.token(CON, v), REFUSED);
            }
            if (made > 0) {
                due("CON 0 of " + made, x.token(CON, 0), 2 * made - 1);
                due("the last of " + made, x.token(CON, made - 1), 2 * made);
            }
            x.con(0);
        }
    }

    @Of(value = "Terms", says = "5 CALL v (0 .. 3)")
    private static void calledFunctionThatIsNone() {
        PatternForge x = with(0, 0, 0, 0, 0, 0);
        for (int v : NO_FUNCTIONS) {
            due("CALL " + v, x.token(CALL, v), REFUSED);
        }
        for (int v = 0; v <= 3; v++) {
            due("CALL " + v, x.token(CALL, v), v + 1);
        }
    }

    @Of(value = "Promise 3", says = "v (where it says something)")
    private static void wordlessV() {
        int there = 0;
        PatternForge x = with(0);
        for (int v : new int[] {-1, 4, 6, 8, FEW, MANY}) {
            due("ANY " + v, x.token(ANY, v), ++there);
            due("OR " + v, x.token(OR, v), ++there);
            due("NOT " + v, x.token(NOT, v), ++there);
        }
        x.give();
        for (int v : new int[] {-1, 8, FEW, MANY}) {
            x.token(OR, v);
            x.token(NOT, v);
            x.token(ANY, v);
            x.token(CON, 0);
            x.token(CON, 0);
            due("a row whatever v is", x.row(0), 1);
            due("that takes 0", x.count(0, 0, 1), 1);
            x.drop(0);
        }
    }

    // Promise 4

    @Of(value = "Promise 4", says = "The draft, which is empty then, becomes one more row of function f")
    private static void draftIsEmptyAfterRow() {
        PatternForge x = with(0);
        due("a row", row(x, 2, "_ 0"), 1);
        due("no draft is left", x.row(2), WRONG);
        due("the next token is the first", x.token(ANY, 0), 1);
    }

    @Of(value = "Promise 4", says = "how many rows there are")
    private static void oneToFiveRows() {
        PatternForge x = with(0);
        for (int rows = 1; rows <= 5; rows++) {
            due("rows", row(x, 3, "_ 0"), rows);
        }
        due("all go", x.drop(3), 5);
        due("from one on", row(x, 3, "_ 0"), 1);
    }

    @Of(value = "Promise 4", says = "REFUSED, and the draft stays, if there is no such function")
    private static void rowOfNoFunction() {
        PatternForge x = with(0);
        write(x, "_ 0");
        for (int f : NO_FUNCTIONS) {
            due("function " + f, x.row(f), REFUSED);
        }
        due("the draft stays", x.row(0), 1);
        for (int f = 0; f <= 3; f++) {
            due("and there is one row", x.drop(f), f == 0 ? 1 : 0);
        }
    }

    @Of(value = "Promise 4", says = "REFUSED, and the draft stays, if there is no such function or it has 5")
    private static void sixthRow() {
        PatternForge x = with(0, 0);
        for (int i = 0; i < 5; i++) {
            row(x, 1, "0 0");
        }
        write(x, "1 1");
        due("a sixth", x.row(1), REFUSED);
        due("a sixth again", x.row(1), REFUSED);
        due("the draft stays", x.row(2), 1);
        due("it is that draft", run(x, 2, "1"), OK);
        same("it is that draft", resultOf(x), "1");
        due("the five stay", x.taken(1), -1);
        due("the five stay", x.drop(1), 5);
    }

    @Of(value = "Promise 4", says = "REFUSED, and the draft stays")
    private static void refusedRowOfWrongDraft() {
        PatternForge x = with(0);
        for (int i = 0; i < 5; i++) {
            row(x, 0, "_ 0");
        }
        due("an empty draft, no function", x.row(4), REFUSED);
        due("an empty draft, a full function", x.row(0), REFUSED);
        write(x, "_");
        due("half a row, no function", x.row(-1), REFUSED);
        due("half a row, a full function", x.row(0), REFUSED);
        due("it stays", x.token(CON, 0), 2);
        due("and becomes a row", x.row(1), 1);
    }

    @Of(value = "Promise 4", says = "WRONG if it is something else")
    private static void emptyDraftIsNoRow() {
        PatternForge x = with(0);
        due("empty", x.row(0), WRONG);
        due("no row", x.drop(0), 0);
    }

    @Of(value = "Promise 4", says = "WRONG if it is something else")
    private static void draftWithoutResultOrWithTwo() {
        PatternForge x = with(0, 1);
        due("half a pattern", row(x, 0, "1"), WRONG);
        due("a pattern alone", row(x, 0, "1 w"), WRONG);
        due("half a result", row(x, 0, "w 1"), WRONG);
        due("a pattern and two results", row(x, 0, "w w w"), WRONG);
        due("40 tokens", row(x, 0, "w" + tower(39)), WRONG);
        due("none is a row", x.drop(0), 0);
        due("a pattern and a result", row(x, 0, "w w"), 1);
        due("a wrong one leaves it", row(x, 0, "w"), WRONG);
        due("a wrong one leaves it", x.drop(0), 1);
    }

    // Promise 5

    @Of(value = "Promise 5", says = "All rows of a function go: how many")
    private static void dropOfNoneOneAndFive() {
        PatternForge x = with(0);
        for (int rows = 0; rows <= 5; rows++) {
            for (int i = 0; i < rows; i++) {
                row(x, 0, "_ 0");
            }
            row(x, 1, "_ 0");
            due("rows that go", x.drop(0), rows);
            due("none is left", x.drop(0), 0);
            due("none is taken", x.count(0, -1, 1), 1);
            due("none is there", x.count(0, 0, 1), REFUSED);
        }
        due("another function's stay", x.drop(1), 5);
    }

    @Of(value = "Promise 5", says = "REFUSED if there is no such function")
    private static void dropOfNoFunction() {
        PatternForge x = with(0);
        for (int f = 0; f <= 3; f++) {
            row(x, f, "_ 0");
        }
        for (int f : NO_FUNCTIONS) {
            due("function " + f, x.drop(f), REFUSED);
        }
        run(x, 0, "0");
        for (int f = 0; f <= 3; f++) {
            due("none is gone of " + f, x.drop(f), 1);
        }
        due("what was run stays", x.result(0), 0);
    }

    // Promise 6

    @Of(value = "Promise 6", says = "The draft, which is empty then, becomes the argument")
    private static void draftIsEmptyAfterGive() {
        PatternForge x = with(0, 1);
        due("a value", give(x, "1 0"), 2);
        due("no draft is left", x.give(), WRONG);
        give(x, "1 0");
        due("the next token is the first", x.token(CON, 0), 1);
        due("and the value of one", x.give(), 1);
    }

    @Of(value = "Promise 6", says = "if it is CONs that are a value: its size")
    private static void giveOfOneAndForty() {
        PatternForge x = with(0, 1);
        row(x, 0, "w w");
        due("one", give(x, "0"), 1);
        x.run(0);
        same("one", resultOf(x), "0");
        due("forty", give(x, tower(40)), 40);
        x.run(0);
        same("forty", resultOf(x), tower(40));
        due("one again", give(x, "0"), 1);
        x.run(0);
        same("one again", resultOf(x), "0");
    }

    @Of(value = "Promise 6", says = "if it is CONs that are a value")
    private static void giveOfOtherTokens() {
        PatternForge x = with(0, 1, 2);
        for (String text : new String[] {"_", "w", "z", "F 0", "! 0", "| 0 0", "1 _", "1 w", "1 F 0", "1 ! 0", "2 0 w",
            "2 w 0", "1 | 0 0"}) {
            due(text, give(x, text), WRONG);
            due("no argument came of it", x.taken(0), REFUSED - 1);
        }
        due("CONs alone", give(x, "2 1 0 0"), 4);
    }

    @Of(value = "Promise 6", says = "else WRONG (the argument stays)")
    private static void giveOfEmptyDraft() {
        PatternForge x = with(0, 1);
        row(x, 0, "w w");
        due("empty", x.give(), WRONG);
        due("there is still none", x.run(0), REFUSED);
        give(x, "1 0");
        due("empty", x.give(), WRONG);
        x.run(0);
        same("the argument stays", resultOf(x), "10");
    }

    @Of(value = "Promise 6", says = "else WRONG (the argument stays)")
    private static void argumentStaysAfterWrong() {
        PatternForge x = with(0, 1, 2, 0);
        row(x, 0, "w w");
        give(x, "2 1 0 3");
        for (String text : new String[] {"1", "3 3", "1 1 1 1", "2 3", "3 _", "w", "1".repeat(40)}) {
            due(text, give(x, text), WRONG);
            x.run(0);
            same("the argument stays", resultOf(x), "2103");
        }
    }

    // Promise 7

    @Of(value = "Promise 7", says = "OK, STUCK, LONG or BIG")
    private static void eachWayToEnd() {
        PatternForge x = with(0, 1);
        row(x, 0, "w w");
        row(x, 1, "1 w w");
        row(x, 2, "w H w");
        row(x, 3, "w I 1 w");
        give(x, "0");
        due("OK", x.run(0), OK);
        due("STUCK", x.run(1), STUCK);
        due("LONG", x.run(2), LONG);
        due("BIG", x.run(3), BIG);
        due("OK again", x.run(0), OK);
    }

    @Of(value = "Promise 7", says = "REFUSED, and nothing changes, if there is no such function")
    private static void runOfNoFunction() {
        PatternForge x = with(0, 1);
        row(x, 0, "w 1 w");
        run(x, 0, "0");
        write(x, "1");
        for (int f : NO_FUNCTIONS) {
            due("function " + f, x.run(f), REFUSED);
        }
        due("the run's size", x.ran(0), 2);
        due("its steps", x.ran(1), 1);
        due("its function", x.ran(2), -1);
        same("its result", resultOf(x), "10");
        x.run(0);
        due("the argument", x.ran(0), 2);
        due("the draft", x.token(CON, 0), 2);
    }

    @Of(value = "Promise 7", says = "REFUSED, and nothing changes, if there is no such function")
    private static void refusedRunAfterOneThatWasNotOk() {
        PatternForge x = with(0, 1);
        row(x, 2, "w H w");
        run(x, 2, "0");
        due("refused", x.run(4), REFUSED);
        due("steps", x.ran(1), 100);
        due("function", x.ran(2), 2);
        due("no result", x.result(0), REFUSED);
        due("no use", x.use(), REFUSED);
    }

    @Of(value = "Promise 7", says = "or no argument")
    private static void runWithoutArgument() {
        PatternForge x = with(0);
        row(x, 0, "_ 0");
        write(x, "0");
        for (int f = 0; f <= 3; f++) {
            due("function " + f, x.run(f), REFUSED);
        }
        due("nor a function", x.run(4), REFUSED);
        due("nothing was run", x.ran(0), REFUSED);
        due("nothing was run", x.ran(1), REFUSED);
        due("nothing came of it", x.result(0), REFUSED);
        due("the draft stays", x.give(), 1);
        due("with an argument", x.run(0), OK);
    }

    // Promise 8

    @Of(value = "Promise 8", says = "Constructor k of what the latest run gave, in its list")
    private static void resultFromFirstToLast() {
        PatternForge x = with(0, 1, 2, 0);
        row(x, 0, "w w");
        run(x, 0, "2" + "1".repeat(37) + "0" + "3");
        due("the first", x.result(0), 2);
        due("the last but one", x.result(38), 0);
        due("the last", x.result(39), 3);
        run(x, 0, "3");
        due("of the latest run", x.result(0), 3);
        due("and of it alone", x.result(1), REFUSED);
    }

    @Of(value = "Promise 8", says = "REFUSED if there is none")
    private static void resultBeforeFirstAndAfterLast() {
        PatternForge x = with(0, 1);
        row(x, 0, "w w");
        for (int size : new int[] {1, 2, 40}) {
            run(x, 0, tower(size));
            for (int k : new int[] {-1, size, size + 1, 41, FEW, MANY}) {
                due("k " + k + " of " + size, x.result(k), REFUSED);
            }
        }
    }

    @Of(value = "Promise 8", says = "REFUSED if there is none")
    private static void resultWithoutRun() {
        PatternForge x = with(0);
        row(x, 0, "_ 0");
        give(x, "0");
        due("nothing was run", x.result(0), REFUSED);
        x.run(9);
        due("nor by a refused run", x.result(0), REFUSED);
    }

    /** Functions 1, 2 and 3 end STUCK, LONG and BIG; function 0 gives back its argument, which is 0. */
    private static PatternForge failing() {
        PatternForge x = with(0, 1);
        row(x, 0, "w w");
        row(x, 1, "1 w w");
        row(x, 2, "w H w");
        row(x, 3, "w I 1 w");
        give(x, "0");
        return x;
    }

    @Of(value = "Promise 8", says = "or it was not OK")
    private static void resultOfRunThatWasNotOk() {
        PatternForge x = failing();
        for (int status = STUCK; status <= BIG; status++) {
            due("OK", x.run(0), OK);
            due("not OK", x.run(status), status);
            due("after " + status, x.result(0), REFUSED);
        }
    }

    // Promise 9

    @Of(value = "Promise 9", says = "what 0: the size of what it gave (0 if it was not OK)")
    private static void sizeOfRunThatWasNotOk() {
        PatternForge x = failing();
        for (int status = STUCK; status <= BIG; status++) {
            x.run(0);
            due("OK", x.ran(0), 1);
            x.run(status);
            due("after " + status, x.ran(0), 0);
        }
        run(x, 0, tower(40));
        due("the largest", x.ran(0), 40);
    }

    @Of(value = "Promise 9", says = "1: its steps")
    private static void stepsOneAndHundred() {
        PatternForge x = counting();
        run(x, 0, "0");
        due("the least", x.ran(1), 1);
        run(x, 1, tower(33));
        due("the most", x.ran(1), 100);
        run(x, 2, "0");
        due("STUCK at once", x.ran(1), 1);
    }

    @Of(value = "Promise 9", says = "2: the function whose call was STUCK, LONG or BIG")
    private static void functionOfEachFailure() {
        PatternForge x = failing();
        for (int status = STUCK; status <= BIG; status++) {
            x.run(status);
            due("of " + status, x.ran(2), status);
        }
        // Not the function that was run, but the one it called.
        for (int status = STUCK; status <= BIG; status++) {
            x.drop(0);
            row(x, 0, "w " + "FGHI".charAt(status) + " w");
            due("called", x.run(0), status);
            due("of " + status, x.ran(2), status);
        }
    }

    @Of(value = "Promise 9", says = "the function whose call was STUCK, LONG or BIG")
    private static void functionOfTheCallThatIsTooMany() {
        PatternForge x = with(0);
        row(x, 0, "w G w");
        row(x, 1, "w F w");
        give(x, "0");
        due("LONG", x.run(0), LONG);
        due("the 101st is of 0", x.ran(2), 0);
        due("LONG", x.run(1), LONG);
        due("the 101st is of 1", x.ran(2), 1);
    }

    @Of(value = "Promise 9", says = "(of BIG, that whose result was worked out)")
    private static void functionWhoseResultIsTooLarge() {
        PatternForge x = with(0, 1);
        row(x, 0, "w G 1 w");
        row(x, 1, "w w");
        row(x, 2, "w 1 F w");
        row(x, 3, "w F w");
        due("before it calls", run(x, 0, tower(40)), BIG);
        due("not the one to be called", x.ran(2), 0);
        due("in a call", x.run(3), BIG);
        due("not the caller", x.ran(2), 0);
        due("after a call", run(x, 2, tower(39)), BIG);
        due("not the one that came back", x.ran(2), 2);
    }

    @Of(value = "Promise 9", says = "else -1")
    private static void noFunctionOfRunThatWasOk() {
        PatternForge x = failing();
        for (int status = STUCK; status <= BIG; status++) {
            x.run(status);
            x.run(0);
            due("after " + status, x.ran(2), -1);
        }
    }

    @Of(value = "Promise 9", says = "REFUSED for others")
    private static void ranOfOthers() {
        PatternForge x = failing();
        for (int status = OK; status <= BIG; status++) {
            x.run(status);
            for (int what : new int[] {-1, 3, 4, FEW, MANY}) {
                due("what " + what, x.ran(what), REFUSED);
            }
        }
    }

    @Of(value = "Promise 9", says = "or if there was none")
    private static void ranWithoutRun() {
        PatternForge x = with(0);
        row(x, 0, "_ 0");
        give(x, "0");
        x.run(4);
        x.taken(0);
        for (int what = -1; what <= 3; what++) {
            due("what " + what, x.ran(what), REFUSED);
        }
    }

    // Promise 10

    @Of(value = "Promise 10", says = "What the latest run gave becomes the argument: its size")
    private static void useOfOneAndForty() {
        PatternForge x = with(0, 1);
        row(x, 0, "w w");
        row(x, 1, "1 w w");
        run(x, 0, "0");
        give(x, "1 0");
        due("one", x.use(), 1);
        due("the run is still the latest", x.use(), 1);
        due("it is the argument", x.run(1), STUCK);
        run(x, 0, tower(40));
        give(x, "0");
        due("forty", x.use(), 40);
        due("it is the argument", x.run(1), OK);
        due("it is the argument", x.ran(0), 39);
    }

    @Of(value = "Promise 10", says = "REFUSED if it was not OK")
    private static void useOfRunThatWasNotOk() {
        PatternForge x = failing();
        x.run(0);
        give(x, "1 0");
        // Without rows it is STUCK with this argument, too.
        x.drop(1);
        for (int status = STUCK; status <= BIG; status++) {
            due("not OK", x.run(status), status);
            due("after " + status, x.use(), REFUSED);
            x.run(0);
            same("the argument stays", resultOf(x), "10");
        }
    }

    @Of(value = "Promise 10", says = "or there was none")
    private static void useWithoutRun() {
        PatternForge x = with(0);
        row(x, 0, "_ 0");
        due("no argument either", x.use(), REFUSED);
        due("there is still none", x.taken(0), REFUSED - 1);
        give(x, "0");
        x.run(4);
        due("refused alone", x.use(), REFUSED);
        due("the argument stays", x.taken(0), 0);
    }

    // Promise 11

    @Of(value = "Promise 11", says = "The row of a function that would be taken for the argument")
    private static void takenFirstAndLastRow() {
        PatternForge x = with(0, 0, 0, 0, 0);
        for (int r = 0; r < 5; r++) {
            row(x, 3, r + " 0");
        }
        for (int r = 0; r < 5; r++) {
            give(x, "" + r);
            due("row " + r, x.taken(3), r);
        }
        x.drop(3);
        for (int r = 0; r < 5; r++) {
            row(x, 3, "_ 0");
        }
        due("the first of all", x.taken(3), 0);
    }

    @Of(value = "Promise 11", says = "-1 if none would")
    private static void takenIsNone() {
        PatternForge x = with(0, 1);
        give(x, "0");
        for (int f = 0; f <= 3; f++) {
            due("no rows", x.taken(f), -1);
        }
        for (int r = 0; r < 5; r++) {
            row(x, 0, "1 _ 0");
        }
        due("five rows", x.taken(0), -1);
    }

    @Of(value = "Promise 11", says = "REFUSED - 1 if there is no such function")
    private static void takenOfNoFunction() {
        PatternForge x = with(0);
        give(x, "0");
        for (int f : NO_FUNCTIONS) {
            due("function " + f, x.taken(f), -2);
        }
    }

    @Of(value = "Promise 11", says = "or no argument")
    private static void takenWithoutArgument() {
        PatternForge x = with(0);
        row(x, 0, "_ 0");
        write(x, "0");
        due("a row", x.taken(0), -2);
        due("no row", x.taken(1), -2);
        due("no function", x.taken(4), -2);
        x.give();
        due("with one", x.taken(0), 0);
    }

    // Promise 12

    @Of(value = "Promise 12", says = "For how many values of a size (1 .. 5)")
    private static void countOfSizesOneAndFive() {
        // A value of n pairs is one of the Catalan shapes, its leaves of three kinds.
        PatternForge x = with(2, 0, 0, 0);
        row(x, 0, "_ 1");
        long[] due = {3, 0, 9, 0, 54};
        for (int size = 1; size <= 5; size++) {
            due("size " + size, x.count(0, 0, size), due[size - 1]);
        }
        // One value of each size, to see that none is looked at twice and none left out.
        PatternForge y = with(0, 1);
        row(y, 0, "0 0");
        row(y, 0, "1 1 1 1 0 0");
        for (int size = 1; size <= 5; size++) {
            due("the least", y.count(0, 0, size), size == 1 ? 1 : 0);
            due("the largest", y.count(0, 1, size), size == 5 ? 1 : 0);
            due("those between", y.count(0, -1, size), size > 1 && size < 5 ? 1 : 0);
        }
    }

    @Of(value = "Promise 12", says = "a row of a function (-1: none) is taken")
    private static void countOfFirstAndLastRowAndNone() {
        PatternForge x = with(0, 0, 0, 0, 0, 0);
        due("none of no rows", x.count(0, -1, 1), 6);
        for (int r = 0; r < 5; r++) {
            row(x, 0, r + " 0");
        }
        for (int r = -1; r < 5; r++) {
            due("row " + r, x.count(0, r, 1), 1);
        }
        x.drop(0);
        row(x, 0, "_ 0");
        row(x, 0, "_ 0");
        due("the first takes all", x.count(0, 0, 1), 6);
        due("the second nothing", x.count(0, 1, 1), 0);
        due("none is left", x.count(0, -1, 1), 0);
    }

    @Of(value = "Promise 12", says = "For how many values of a size")
    private static void countOfMostValues() {
        // Six constructors, and the last list of all is a value, too.
        PatternForge x = with(2, 2, 2, 1, 0, 0);
        row(x, 0, "_ 4");
        // v(n) = 2 [n = 1] + v(n - 1) + 3 (sum of v(i) v(n - 1 - i)): 2, 2, 14, 38, 218.
        long[] due = {2, 2, 14, 38, 218};
        for (int size = 1; size <= 5; size++) {
            due("size " + size, x.count(0, 0, size), due[size - 1]);
        }
        PatternForge y = with(0, 1, 1, 1, 1, 1);
        row(y, 0, "_ 0");
        due("5 * 5 * 5 * 5 chains", y.count(0, 0, 5), 625);
    }

    @Of(value = "Promise 12", says = "For how many values of a size")
    private static void countWithoutValues() {
        PatternForge x = new PatternForge();
        PatternForge y = with(1, 2, 1, 2, 1, 2);
        row(x, 0, "w w");
        row(y, 0, "w w");
        for (int size = 1; size <= 5; size++) {
            due("no constructors", x.count(0, 0, size) + x.count(0, -1, size), 0);
            due("none without values", y.count(0, 0, size) + y.count(0, -1, size), 0);
        }
    }

    @Of(value = "Promise 12", says = "For how many values of a size")
    private static void countAfterOtherCalls() {
        PatternForge x = with(0, 1, 2);
        row(x, 0, "_ 0");
        row(x, 1, "2 w x w");
        long[] due = {1, 1, 2, 4, 9};
        for (int size = 1; size <= 5; size++) {
            give(x, "2" + "1".repeat(7) + "0 0");
            x.taken(0);
            due("after taken, size " + size, x.count(0, 0, size), due[size - 1]);
            due("once more, size " + size, x.count(0, 0, size), due[size - 1]);
            x.run(1);
            due("after run, size " + size, x.count(0, 0, size), due[size - 1]);
            due("of another function", x.count(2, -1, 5), 9);
            due("after that, size " + size, x.count(0, 0, size), due[size - 1]);
        }
    }

    @Of(value = "Promise 12", says = "REFUSED if there is no such function")
    private static void countOfNoFunction() {
        PatternForge x = with(0);
        row(x, 0, "_ 0");
        row(x, 3, "_ 0");
        for (int f : NO_FUNCTIONS) {
            due("function " + f, x.count(f, 0, 1), REFUSED);
            due("none of function " + f, x.count(f, -1, 1), REFUSED);
        }
    }

    @Of(value = "Promise 12", says = "REFUSED if there is no such function, row")
    private static void countOfNoRow() {
        PatternForge x = with(0);
        for (int rows = 0; rows <= 5; rows++) {
            for (int r : new int[] {-2, -3, rows, rows + 1, 5, FEW, MANY}) {
                due("row " + r + " of " + rows, x.count(1, r, 1), REFUSED);
            }
            due("none", x.count(1, -1, 1), rows == 0 ? 1 : 0);
            due("the last", x.count(1, rows - 1, 1), rows <= 1 ? 1 : 0);
            row(x, 1, "_ 0");
        }
    }

    @Of(value = "Promise 12", says = "REFUSED if there is no such function, row or size")
    private static void countOfNoSize() {
        PatternForge x = with(0, 1);
        row(x, 0, "_ 0");
        for (int size : new int[] {-1, 0, 6, 7, FEW, MANY}) {
            due("size " + size, x.count(0, 0, size), REFUSED);
            due("none of size " + size, x.count(0, -1, size), REFUSED);
        }
    }

    // Promise 13

    @Of(value = "Promise 13", says = "The rows (sum of 2^row)")
    private static void uselessNoneEachAndAll() {
        PatternForge x = with(0, 0, 0, 0, 0, 0);
        due("no rows", x.useless(2), 0);
        for (int bad = 0; bad < 5; bad++) {
            for (int r = 0; r < 5; r++) {
                row(x, 2, r == bad ? "! _ 0" : r + " 0");
            }
            due("row " + bad + " alone", x.useless(2), 1 << bad);
            x.drop(2);
        }
        for (int r = 0; r < 5; r++) {
            row(x, 2, "! _ 0");
        }
        due("all five", x.useless(2), 31);
        x.drop(2);
        row(x, 2, "_ 0");
        due("one that is of use", x.useless(2), 0);
    }

    @Of(value = "Promise 13", says = "that are taken for no value of a size up to 5")
    private static void uselessBeyondSizeFive() {
        PatternForge x = with(0, 1, 2);
        for (int size = 2; size <= 6; size++) {
            x.drop(0);
            row(x, 0, "1".repeat(size - 1) + "0 0");
            due("the one value of size " + size, x.useless(0), size <= 5 ? 0 : 1);
        }
        x.drop(0);
        row(x, 0, "0 0");
        due("the one value of size 1", x.useless(0), 0);
        row(x, 1, "2 1 _ 1 _ 0");
        row(x, 1, "2 2 _ _ 1 _ 0");
        due("pairs of 5 and 6", x.useless(1), 2);
    }

    @Of(value = "Promise 13", says = "that are taken for no value")
    private static void uselessWithoutValues() {
        PatternForge x = new PatternForge();
        PatternForge y = with(1, 2);
        for (int r = 0; r < 5; r++) {
            due("row", row(x, 0, "w w"), r + 1);
            due("row", row(y, 0, "1 w x x"), r + 1);
        }
        due("no constructors", x.useless(0), 31);
        due("no values", y.useless(0), 31);
    }

    @Of(value = "Promise 13", says = "REFUSED if there is no such function")
    private static void uselessOfNoFunction() {
        PatternForge x = with(0);
        for (int f : NO_FUNCTIONS) {
            due("function " + f, x.useless(f), REFUSED);
        }
        due("function 0", x.useless(0), 0);
        due("function 3", x.useless(3), 0);
    }

    // Promise 14

    /** Takes all but the one value of 0 and 1 that is of this size. */
    private static void takeAllBut(PatternForge x, int f, int size) {
        row(x, f, "!" + tower(size) + "0");
    }

    @Of(value = "Promise 14", says = "The least size, up to 5, of a value for which no row is taken")
    private static void openOfSizesOneToFive() {
        PatternForge x = with(0, 1, 2);
        for (int size = 1; size <= 5; size++) {
            x.drop(0);
            takeAllBut(x, 0, size);
            due("size " + size, x.open(0), size);
        }
        x.drop(0);
        row(x, 0, "! | 1 1 1 0 1 1 0 0");
        due("3 rather than 4", x.open(0), 3);
    }

    @Of(value = "Promise 14", says = "0 if there is none")
    private static void openIsNone() {
        PatternForge x = with(0, 1, 2);
        row(x, 0, "_ 0");
        due("all are taken", x.open(0), 0);
        row(x, 1, "0 0");
        row(x, 1, "1 _ 0");
        row(x, 1, "2 _ _ 0");
        due("all together", x.open(1), 0);
        takeAllBut(x, 2, 6);
        due("one of size 6 alone is not", x.open(2), 0);
    }

    @Of(value = "Promise 14", says = "0 if there is none")
    private static void openWithoutValues() {
        due("no constructors", new PatternForge().open(0), 0);
        due("no values", with(1, 2).open(0), 0);
        due("one value", with(0).open(0), 1);
        due("one value, of the last constructor", with(2, 2, 2, 2, 2, 0).open(0), 1);
    }

    @Of(value = "Promise 14", says = "REFUSED likewise")
    private static void openOfNoFunction() {
        PatternForge x = with(0);
        for (int f : NO_FUNCTIONS) {
            due("function " + f, x.open(f), REFUSED);
        }
        due("function 0", x.open(0), 1);
        due("function 3", x.open(3), 1);
    }

    // Promise 15

    @Of(value = "Promise 15", says = "Constructor k of the first of these of that size")
    private static void witnessFromFirstToLast() {
        PatternForge x = with(0, 1, 2);
        for (int size = 1; size <= 5; size++) {
            x.drop(0);
            takeAllBut(x, 0, size);
            due("the first of " + size, x.witness(0, 0), size == 1 ? 0 : 1);
            due("the last of " + size, x.witness(0, size - 1), 0);
            same("all", witnessOf(x, 0), tower(size));
        }
    }

    @Of(value = "Promise 15", says = "in the order of their lists (where they differ first, the lower constructor)")
    private static void witnessIsTheLowest() {
        PatternForge x = with(2, 1, 0, 0);
        row(x, 0, "| 2 3 2");
        row(x, 0, "1 _ 2");
        same("of 022, 023, 032, 033", witnessOf(x, 0), "022");
        row(x, 0, "0 2 2 2");
        same("differs at last", witnessOf(x, 0), "023");
        row(x, 0, "0 2 3 2");
        same("differs in the middle", witnessOf(x, 0), "032");
        row(x, 1, "! | 1 0 2 2 0 2 1 2 2");
        same("differs at first", witnessOf(x, 1), "0212");
        row(x, 2, "! | 0 2 1 2 0 1 2 2 2");
        same("differs at the second place", witnessOf(x, 2), "0122");
        row(x, 3, "! | 3 2 2");
        same("of size one", witnessOf(x, 3), "2");
    }

    @Of(value = "Promise 15", says = "REFUSED if there is none")
    private static void witnessBeforeFirstAndAfterLast() {
        PatternForge x = with(0, 1, 2);
        for (int size = 1; size <= 5; size++) {
            x.drop(0);
            takeAllBut(x, 0, size);
            for (int k : new int[] {-1, size, size + 1, 5, FEW, MANY}) {
                due("k " + k + " of " + size, x.witness(0, k), REFUSED);
            }
        }
    }

    @Of(value = "Promise 15", says = "REFUSED if there is none")
    private static void witnessOfNothingOpen() {
        PatternForge x = with(0, 1);
        row(x, 0, "_ 0");
        takeAllBut(x, 1, 6);
        due("one that is open, before", x.witness(2, 0), 0);
        for (int k = -1; k <= 6; k++) {
            due("all are taken", x.witness(0, k), REFUSED);
            due("one of size 6 alone is not", x.witness(1, k), REFUSED);
            due("no constructors", new PatternForge().witness(0, k), REFUSED);
            due("no values", with(1, 2).witness(0, k), REFUSED);
        }
    }

    @Of(value = "Promise 15", says = "REFUSED if there is none")
    private static void witnessOfNoFunction() {
        PatternForge x = with(0);
        for (int f : NO_FUNCTIONS) {
            due("function " + f, x.witness(f, 0), REFUSED);
        }
        due("function 0", x.witness(0, 0), 0);
        due("function 3", x.witness(3, 0), 0);
    }

    // Promise 16

    @Of(value = "Promise 16", says = "row: the draft is empty after WRONG, too.")
    private static void draftIsEmptyAfterWrongRow() {
        PatternForge x = with(0);
        for (String text : new String[] {"_", "_ _", "F 0 0", "_ 0 0", "0".repeat(40)}) {
            due(text, row(x, 0, text), WRONG);
            due("the next token is the first", x.token(ANY, 0), 1);
            due("and half a row", x.row(0), WRONG);
        }
    }

    @Of(value = "Promise 16", says = "give: the draft is empty whatever it answers.")
    private static void draftIsEmptyAfterGiveWhateverItAnswers() {
        PatternForge x = with(0, 1);
        for (String text : new String[] {"0", "1 0", tower(40), "", "1", "0 0", "_", "w", "1".repeat(40)}) {
            give(x, text);
            due("after " + text, x.token(CON, 0), 1);
            due("and a value", x.give(), 1);
        }
    }

    @Of(value = "Promise 16", says = "row: the draft is empty after WRONG, too.")
    private static void nothingElseTouchesTheDraft() {
        PatternForge x = with(0, 1);
        row(x, 0, "w w");
        run(x, 0, "0");
        write(x, "1");
        for (int f = -1; f <= 4; f++) {
            x.run(f);
            x.result(f);
            x.ran(f);
            x.use();
            x.taken(f);
            x.count(f, 0, 2);
            x.useless(f);
            x.open(f);
            x.witness(f, 0);
            x.con(f + 4);
            x.token(f + 6, f);
            x.drop(f == 0 ? 1 : f);
        }
        due("the draft", x.token(CON, 0), 2);
        due("is what it was", x.give(), 2);
    }

    private static boolean holds(Method test) throws IllegalAccessException {
        int before = wrong;
        try {
            test.invoke(null);
        } catch (InvocationTargetException e) {
            wrong++;
            System.out.println(e.getCause());
        }
        return wrong == before;
    }

    public static void main(String[] args) throws IllegalAccessException {
        List<Method> tests = new ArrayList<>();
        for (Method method : BoundaryTests.class.getDeclaredMethods()) {
            if (method.isAnnotationPresent(Of.class)) {
                tests.add(method);
            }
        }
        // The library hands out methods in no order of its own.
        tests.sort(Comparator.comparing(Method::getName));
        for (Method test : tests) {
            if (!holds(test)) {
                Of of = test.getAnnotation(Of.class);
                System.out.println("broken: " + test.getName() + " (" + of.value() + ": \"" + of.says() + "\")");
            }
        }
        System.out.println(tests.size() + " boundary sentences tried");
        end();
    }
}
