/** Each promise by examples whose answers were worked out by hand from the document. */
public final class PromiseTests extends Checks {
    private static void promise1() {
        PatternForge x = new PatternForge();
        for (int f = 0; f < 4; f++) {
            due("1 run", x.run(f), REFUSED);
            due("1 taken", x.taken(f), -2);
            due("1 count of none", x.count(f, -1, 1), 0);
            due("1 no row", x.count(f, 0, 1), REFUSED);
            due("1 useless", x.useless(f), 0);
            due("1 open", x.open(f), 0);
            due("1 witness", x.witness(f, 0), REFUSED);
            due("1 drop", x.drop(f), 0);
        }
        due("1 result", x.result(0), REFUSED);
        due("1 ran", x.ran(0), REFUSED);
        due("1 ran steps", x.ran(1), REFUSED);
        due("1 ran function", x.ran(2), REFUSED);
        due("1 use", x.use(), REFUSED);
        due("1 no constructor", x.token(CON, 0), REFUSED);
        due("1 the draft is empty", x.token(ANY, 0), 1);
        due("1 first constructor", x.con(0), 0);
        // Two objects share nothing.
        PatternForge y = new PatternForge();
        due("1 another object", y.token(CON, 0), REFUSED);
        due("1 its draft", y.token(ANY, 0), 1);
    }

    private static void promise2() {
        PatternForge x = new PatternForge();
        for (int arity : new int[] {-1, 3, FEW, MANY}) {
            due("2 arity " + arity, x.con(arity), REFUSED);
        }
        for (int i = 0; i < 6; i++) {
            due("2 con", x.con(i % 3), i);
        }
        due("2 a seventh", x.con(0), REFUSED);
        due("2 a seventh, no arity", x.con(-1), REFUSED);
        // The arities are those that were given.
        due("2 value", give(x, "2 1 0 5 3 4 0"), 7);
        // A constructor may come after rows; their patterns see its values.
        PatternForge y = with(0);
        row(y, 0, "0 0");
        due("2 before", y.open(0), 0);
        due("2 later", y.con(0), 1);
        due("2 after", y.open(0), 1);
        due("2 witness", y.witness(0, 0), 1);
    }

    private static void promise3() {
        PatternForge x = with(0, 1);
        for (int kind : new int[] {-1, 6, FEW, MANY}) {
            due("3 kind " + kind, x.token(kind, 0), REFUSED);
        }
        for (int v : new int[] {-1, 4, FEW, MANY}) {
            due("3 VAR " + v, x.token(VAR, v), REFUSED);
            due("3 CALL " + v, x.token(CALL, v), REFUSED);
        }
        for (int v : new int[] {-1, 2, 6, FEW, MANY}) {
            due("3 CON " + v, x.token(CON, v), REFUSED);
        }
        int there = 0;
        for (int v : new int[] {-1, 9, FEW, MANY}) {
            due("3 ANY " + v, x.token(ANY, v), ++there);
            due("3 OR " + v, x.token(OR, v), ++there);
            due("3 NOT " + v, x.token(NOT, v), ++there);
        }
        for (int v = 0; v < 4; v++) {
            due("3 VAR " + v, x.token(VAR, v), ++there);
            due("3 CALL " + v, x.token(CALL, v), ++there);
        }
        due("3 CON 0", x.token(CON, 0), ++there);
        due("3 CON 1", x.token(CON, 1), ++there);
        while (there < 40) {
            due("3 up to 40", x.token(ANY, 0), ++there);
        }
        due("3 forty-first", x.token(ANY, 0), REFUSED);
        due("3 a long draft is no row", x.row(0), WRONG);
        // v of ANY, OR and NOT says nothing, so that the row is as any other.
        x.token(OR, -7);
        x.token(NOT, 5);
        x.token(CON, 0);
        x.token(ANY, MANY);
        x.token(CON, 1);
        x.token(CON, 0);
        due("3 row", x.row(0), 1);
        due("3 it takes all", x.count(0, 0, 1) + x.count(0, 0, 4), 2);
    }

    private static void promise4Patterns() {
        PatternForge x = with(0, 1, 2);
        String[] right = {"_ 0", "w w", "0 0", "1 w w", "2 w x 2 x w", "2 2 w x 2 y z 2 w z", "| 0 1 _ 0", "! ! 0 0",
            "2 w | 0 ! 1 0 w", "2 | 0 0 w w", "w 0", "z F z", "w I H G F w", "w 2 w w", "1 1 1 1 1 1 1 1 1 1 1 w w"};
        for (String text : right) {
            due("4 " + text, row(x, 0, text), 1);
            x.drop(0);
        }
        String[] bad = {"", "_", "0", "w", "1", "1 0", "1 w", "2 w x", "2 0", "| 0", "! 0", "_ _", "_ w", "w x",
            "w _", "w | 0 0", "w ! 0", "_ 0 0", "_ 1", "_ 2 0", "_ 1 0 0", "w w w", "2 w w w", "2 w w 0",
            "2 w 2 x w 0", "| w 0 0", "| 0 w 0", "! w 0", "2 0 ! 1 w 0", "2 w | 0 w w", "! ! w 0", "| ! 0 w 0", "F 0 0",
            "F w w", "1 F w w", "! F 0 0", "w F", "w F w w", "_ F _", "w 2 w", "w 2 w _", "2 w x y", "2 w x 2 w y"};
        for (String text : bad) {
            due("4 wrong: " + text, row(x, 0, text), WRONG);
        }
        due("4 nothing came of them", x.drop(0), 0);
        // A variable may follow an OR or NOT that is over.
        due("4 after OR", row(x, 0, "2 | 0 | 1 _ 0 w w"), 1);
        due("4 after NOT", row(x, 0, "2 ! ! 0 x x"), 2);
    }

    private static void promise4Limits() {
        PatternForge x = with(0, 1, 2);
        String eleven = "1 1 1 1 1 1 1 1 1 1 1 ";
        due("4 pattern of 12", row(x, 0, eleven + "w w"), 1);
        due("4 pattern of 13", row(x, 0, eleven + "1 w w"), WRONG);
        due("4 result of 12", row(x, 0, "w " + eleven + "w"), 2);
        due("4 result of 13", row(x, 0, "w " + eleven + "1 w"), WRONG);
        due("4 both of 12", row(x, 0, eleven + "_" + eleven + "0"), 3);
        due("4 four", row(x, 0, "_ 0"), 4);
        due("4 five", row(x, 0, "_ 0"), 5);
        write(x, "_ 0");
        due("4 six", x.row(0), REFUSED);
        due("4 no function -1", x.row(-1), REFUSED);
        due("4 no function 4", x.row(4), REFUSED);
        due("4 no function, far", x.row(MANY) + x.row(FEW), 2 * REFUSED);
        due("4 the draft stays", x.row(3), 1);
        due("4 the draft is empty after it", x.row(3), WRONG);
        write(x, "_");
        due("4 a full function before a wrong draft", x.row(0), REFUSED);
        due("4 that draft stays, too", x.token(CON, 0), 2);
        due("4 and is a row", x.row(3), 2);
        // Each function has five rows of its own.
        for (int f = 1; f < 3; f++) {
            for (int i = 1; i <= 5; i++) {
                due("4 rows of " + f, row(x, f, "_ 0"), i);
            }
        }
    }

    private static void promise5() {
        PatternForge x = with(0, 0);
        for (int f : new int[] {-1, 4, FEW, MANY}) {
            due("5 no function", x.drop(f), REFUSED);
        }
        row(x, 1, "0 0");
        row(x, 1, "1 0");
        row(x, 2, "1 1");
        write(x, "_ 1");
        due("5 drop", x.drop(1), 2);
        due("5 again", x.drop(1), 0);
        due("5 its rows are gone", x.count(1, 0, 1), REFUSED);
        due("5 another's stay", x.count(2, 0, 1), 1);
        due("5 the draft stays", x.row(1), 1);
        due("5 the new row", x.count(1, 0, 1), 2);
        // What was run stays.
        give(x, "0");
        x.run(1);
        x.drop(1);
        due("5 the run stays", x.result(0), 1);
        due("5 but is not to be had again", x.run(1), STUCK);
    }

    private static void promise6() {
        PatternForge x = with(0, 1, 2);
        for (String text : new String[] {"", "1", "2 0", "0 0", "1 0 0", "2 0 0 0", "_", "w", "1 w", "! 0", "| 0 0",
            "F 0", "2 0 _", "1 F 0"}) {
            due("6 wrong: " + text, give(x, text), WRONG);
            due("6 no argument", x.run(0), REFUSED);
            due("6 the draft is empty", x.token(ANY, 0), 1);
            x.give();
        }
        due("6 one", give(x, "0"), 1);
        due("6 five", give(x, "2 1 0 1 0"), 5);
        due("6 seven", give(x, "2 2 0 0 2 0 0"), 7);
        due("6 empty after it", x.token(ANY, 0), 1);
        due("6 wrong", x.give(), WRONG);
        row(x, 0, "w w");
        x.run(0);
        same("6 the argument stays", resultOf(x), "2200200");
        due("6 forty", give(x, "1".repeat(39) + "0"), 40);
        due("6 forty without an end", give(x, "1".repeat(40)), WRONG);
        due("6 taken of the forty", x.taken(0), 0);
    }

    private static void promise7() {
        PatternForge x = with(0, 1, 2);
        row(x, 0, "0 0");
        due("7 no argument", x.run(0), REFUSED);
        give(x, "1 0");
        due("7 stuck", x.run(0), STUCK);
        due("7 no function", x.run(-1), REFUSED);
        due("7 no function", x.run(4), REFUSED);
        due("7 no function, far", x.run(MANY) + x.run(FEW), 2 * REFUSED);
        due("7 nothing changed", x.ran(1), 1);
        due("7 nothing changed", x.ran(2), 0);
        // Addition: function 1 takes a pair.
        row(x, 1, "2 0 w w");
        row(x, 1, "2 1 w x 1 G 2 w x");
        due("7 two and three", run(x, 1, "2 110 1110"), OK);
        same("7 are five", resultOf(x), "111110");
        due("7 three steps", x.ran(1), 3);
        // The order of operands, and variables that stand for the same value twice.
        row(x, 2, "2 w x 2 2 x w 2 w x");
        due("7 swap", run(x, 2, "2 10 0"), OK);
        same("7 swapped", resultOf(x), "2" + "2010" + "2100");
        // The first row that matches.
        row(x, 3, "1 _ 0");
        row(x, 3, "w 1 w");
        due("7 first row", run(x, 3, "10"), OK);
        same("7 its result", resultOf(x), "0");
        due("7 second row", run(x, 3, "0"), OK);
        same("7 its result", resultOf(x), "10");
        due("7 the draft stays", x.token(ANY, 0) + x.run(3) + x.token(ANY, 0), 3);
    }

    private static void promise7Matching() {
        PatternForge x = with(0, 1, 2, 0);
        row(x, 0, "2 w 2 | 0 3 x 2 x w");
        due("7 inside", run(x, 0, "2 10 2 3 13"), OK);
        same("7 what they match", resultOf(x), "21310");
        due("7 not inside", run(x, 0, "2 10 2 10 13"), STUCK);
        row(x, 1, "2 ! | 1 _ 2 _ 3 w w");
        due("7 neither", run(x, 1, "2 0 3"), OK);
        due("7 the first", run(x, 1, "2 10 3"), STUCK);
        due("7 the second", run(x, 1, "2 203 3"), STUCK);
        due("7 neither, a pair", run(x, 1, "2 230 10"), OK);
        same("7 what is left", resultOf(x), "10");
        row(x, 2, "2 2 w x 2 y z 2 2 z y 2 x w");
        due("7 four variables", run(x, 2, "2 2 0 10 2 110 1113"), OK);
        same("7 turned around", resultOf(x), "2" + "2" + "1113" + "110" + "2" + "10" + "0");
        row(x, 3, "2 ! 0 | ! 3 0 0");
        due("7 OR of a NOT", run(x, 3, "2 3 10"), OK);
        due("7 nor", run(x, 3, "2 3 3"), STUCK);
        due("7 nor", run(x, 3, "2 0 10"), STUCK);
        // The last of a pattern's 12 tokens stands for what is left.
        x.drop(3);
        row(x, 3, "1".repeat(11) + "w w");
        due("7 deep", run(x, 3, "1".repeat(11) + "2 3 0"), OK);
        same("7 what is left", resultOf(x), "230");
    }

    private static void promise7Orders() {
        PatternForge x = with(0, 1, 2);
        // Operands from the first to the last: the first that fails tells.
        row(x, 0, "w 2 G w H w");
        give(x, "0");
        due("7 the first operand", x.run(0), STUCK);
        due("7 was function 1's", x.ran(2), 1);
        row(x, 1, "w w");
        due("7 the second operand", x.run(0), STUCK);
        due("7 was function 2's", x.ran(2), 2);
        due("7 steps", x.ran(1), 3);
        row(x, 2, "w H w");
        due("7 an endless operand", x.run(0), LONG);
        due("7 of function 2", x.ran(2), 2);
        due("7 steps", x.ran(1), 100);
        // An operand is worked out even where the whole can't be.
        x.drop(0);
        x.drop(1);
        row(x, 0, "w 1 G 1 w");
        row(x, 1, "1 0 0");
        due("7 inner before outer", run(x, 0, "0"), OK);
        same("7 result", resultOf(x), "10");
        due("7 stuck within", run(x, 0, "10"), STUCK);
        due("7 in function 1", x.ran(2), 1);
    }

    private static void promise8() {
        PatternForge x = with(0, 1, 2);
        row(x, 0, "w 2 w 1 0");
        row(x, 1, "0 0");
        due("8 no run", x.result(0), REFUSED);
        run(x, 0, "10");
        due("8 0", x.result(0), 2);
        due("8 1", x.result(1), 1);
        due("8 2", x.result(2), 0);
        due("8 3", x.result(3), 1);
        due("8 4", x.result(4), 0);
        for (int k : new int[] {-1, 5, 39, 40, FEW, MANY}) {
            due("8 none: " + k, x.result(k), REFUSED);
        }
        x.run(4);
        due("8 a refused run changes nothing", x.result(0), 2);
        give(x, "0");
        due("8 nor does an argument", x.result(0), 2);
        give(x, "10");
        x.run(1);
        due("8 not OK", x.result(0), REFUSED);
    }

    private static void promise9() {
        PatternForge x = with(0, 1, 2);
        row(x, 0, "0 0");
        row(x, 0, "1 w 1 1 F w");
        row(x, 1, "w F w");
        row(x, 2, "w 2 w w");
        row(x, 3, "w H 1 H w");
        due("9 none", x.ran(0) + x.ran(1) + x.ran(2), 3 * REFUSED);
        due("9 OK", run(x, 1, "1110"), OK);
        due("9 size", x.ran(0), 7);
        due("9 steps", x.ran(1), 5);
        due("9 function", x.ran(2), -1);
        for (int what : new int[] {-1, 3, FEW, MANY}) {
            due("9 others", x.ran(what), REFUSED);
        }
        due("9 STUCK", run(x, 1, "200"), STUCK);
        due("9 size", x.ran(0), 0);
        due("9 steps", x.ran(1), 2);
        due("9 the function that was called", x.ran(2), 0);
        due("9 BIG", run(x, 3, "1".repeat(19) + "0"), BIG);
        due("9 the function whose result it was", x.ran(2), 2);
        due("9 size", x.ran(0), 0);
        due("9 steps", x.ran(1), 2);
        due("9 BIG again", run(x, 3, "1".repeat(10) + "0"), BIG);
        due("9 in the second call", x.ran(1), 3);
        due("9 function", x.ran(2), 2);
        x.drop(3);
        row(x, 3, "w 1 H w");
        due("9 BIG in the caller, after a call", run(x, 3, "1".repeat(18) + "0"), OK);
        due("9 size", x.ran(0), 40);
        x.drop(3);
        row(x, 3, "w 1 1 H w");
        due("9 one more", run(x, 3, "1".repeat(18) + "0"), BIG);
        due("9 the caller's result", x.ran(2), 3);
        due("9 steps", x.ran(1), 2);
    }

    private static void promise9Long() {
        PatternForge x = with(0, 1);
        // 0 calls 1, 1 calls 0: the call after the hundredth is of function 0.
        row(x, 0, "w G w");
        row(x, 1, "w F 1 w");
        row(x, 2, "w F w");
        give(x, "0");
        due("9 LONG or BIG", x.run(0), BIG);
        due("9 after 40 turns", x.ran(1), 80);
        due("9 function 1", x.ran(2), 1);
        x.drop(1);
        row(x, 1, "w F w");
        due("9 LONG", x.run(0), LONG);
        due("9 steps", x.ran(1), 100);
        due("9 the function that was not called", x.ran(2), 0);
        due("9 LONG from 2", x.run(2), LONG);
        due("9 the other one", x.ran(2), 1);
        due("9 no size", x.ran(0), 0);
    }

    /** A count down from n takes n + 1 steps: three of them from 32, and the call around them, take just 100. */
    private static void promise9Hundred() {
        PatternForge x = with(0, 1, 2);
        row(x, 0, "0 0");
        row(x, 0, "1 w F w");
        row(x, 1, "w 2 F w 2 F w F w");
        due("9 hundred", run(x, 1, "1".repeat(32) + "0"), OK);
        due("9 hundred steps", x.ran(1), 100);
        due("9 size", x.ran(0), 5);
        due("9 more than a hundred", run(x, 1, "1".repeat(33) + "0"), LONG);
        due("9 a hundred were taken", x.ran(1), 100);
        due("9 function 0", x.ran(2), 0);
        // Function 2 has no rows, but a call that is too many is LONG before it is STUCK.
        row(x, 3, "w H 2 F w 2 F w F w");
        due("9 LONG before STUCK", run(x, 3, "1".repeat(32) + "0"), LONG);
        due("9 function 2", x.ran(2), 2);
        due("9 a hundred", x.ran(1), 100);
        due("9 STUCK", run(x, 3, "1".repeat(31) + "0"), STUCK);
        due("9 function 2", x.ran(2), 2);
        due("9 the stuck call is a step", x.ran(1), 98);
    }

    private static void promise10() {
        PatternForge x = with(0, 1, 2);
        row(x, 0, "w 2 w w");
        row(x, 1, "0 0");
        due("10 no run", x.use(), REFUSED);
        give(x, "0");
        due("10 still none", x.use(), REFUSED);
        x.run(0);
        due("10 use", x.use(), 3);
        due("10 again", x.use(), 3);
        x.run(0);
        same("10 of what was used", resultOf(x), "2200200");
        give(x, "10");
        due("10 the latest run's", x.use(), 7);
        due("10 stuck", x.run(1), STUCK);
        due("10 was not OK", x.use(), REFUSED);
        x.run(0);
        due("10 the argument stayed", x.ran(0), 15);
        write(x, "1 0");
        due("10 the draft", x.use(), 15);
        due("10 stays", x.give(), 2);
    }

    private static void promise11() {
        PatternForge x = with(0, 1, 2);
        row(x, 0, "1 1 _ 0");
        row(x, 0, "| 0 1 0 0");
        row(x, 0, "2 ! 0 w F w");
        due("11 no argument", x.taken(0), -2);
        give(x, "0");
        for (int f : new int[] {-1, 4, FEW, MANY}) {
            due("11 no function", x.taken(f), -2);
        }
        due("11 0", x.taken(0), 1);
        due("11 no rows", x.taken(1), -1);
        give(x, "10");
        due("11 10", x.taken(0), 1);
        give(x, "110");
        due("11 110", x.taken(0), 0);
        give(x, "200");
        due("11 200", x.taken(0), -1);
        give(x, "2 10 0");
        due("11 2100", x.taken(0), 2);
        due("11 nothing was run", x.ran(1), REFUSED);
        x.run(0);
        x.taken(1);
        due("11 nor is it now", x.ran(1), 2);
        // The deepest value, and the deepest pattern.
        row(x, 3, "1".repeat(11) + "0 0");
        row(x, 3, "1".repeat(11) + "w w");
        give(x, "1".repeat(39) + "0");
        due("11 forty", x.taken(3), 1);
        give(x, "1".repeat(11) + "0");
        due("11 twelve", x.taken(3), 0);
        give(x, "1".repeat(10) + "0");
        due("11 eleven", x.taken(3), -1);
    }

    private static void promise12() {
        PatternForge x = with(0, 1, 2);
        row(x, 0, "0 0");
        row(x, 0, "| 1 _ 2 0 _ 0");
        // Values of the sizes 1 .. 5: 1, 1, 2, 4, 9.
        long[] first = {1, 0, 0, 0, 0};
        // 1 with any, 2 with 0 and any: a(n - 1) + a(n - 2) from 3 on.
        long[] second = {0, 1, 2, 3, 6};
        long[] none = {0, 0, 0, 1, 3};
        for (int size = 1; size <= 5; size++) {
            due("12 first " + size, x.count(0, 0, size), first[size - 1]);
            due("12 second " + size, x.count(0, 1, size), second[size - 1]);
            due("12 none " + size, x.count(0, -1, size), none[size - 1]);
        }
        due("12 no rows", x.count(3, -1, 5), 9);
        for (int bad : new int[] {-2, 2, 5, FEW, MANY}) {
            due("12 no row", x.count(0, bad, 1), REFUSED);
        }
        for (int bad : new int[] {-1, 0, 6, FEW, MANY}) {
            due("12 no size", x.count(0, 0, bad), REFUSED);
        }
        for (int bad : new int[] {-1, 4, FEW, MANY}) {
            due("12 no function", x.count(bad, -1, 1), REFUSED);
        }
        // The most values there can be: 2 * 2 * 2 shapes of 4 * 4 * 4 leaves.
        PatternForge y = with(2, 0, 2, 0, 0, 0);
        row(y, 2, "0 _ _ 1");
        row(y, 2, "_ 1");
        due("12 many", y.count(2, 0, 5), 256);
        due("12 many more", y.count(2, 1, 5), 256);
        due("12 the last list", y.count(2, 1, 1), 4);
        due("12 none is of even size", y.count(2, 1, 4), 0);
        due("12 no constructors", new PatternForge().count(0, -1, 5), 0);
        due("12 no values", with(1, 2).count(0, -1, 5), 0);
    }

    private static void promise13() {
        PatternForge x = with(0, 1, 2);
        for (int bad : new int[] {-1, 4, FEW, MANY}) {
            due("13 no function", x.useless(bad), REFUSED);
        }
        due("13 no rows", x.useless(0), 0);
        row(x, 0, "1 _ 0");
        row(x, 0, "1 0 0");
        row(x, 0, "! _ 0");
        row(x, 0, "w w");
        row(x, 0, "0 0");
        due("13 rows 1, 2 and 4", x.useless(0), 2 + 4 + 16);
        // A row whose least value is of size 5 is of use, one of size 6 is not.
        row(x, 1, "1 1 1 1 w w");
        row(x, 2, "1 1 1 1 1 w w");
        due("13 five", x.useless(1), 0);
        due("13 six", x.useless(2), 1);
        // Two rows together leave nothing to a third.
        row(x, 3, "2 0 _ 0");
        row(x, 3, "2 ! 0 _ 0");
        row(x, 3, "2 _ _ 0");
        due("13 both", x.useless(3), 4);
        PatternForge y = new PatternForge();
        row(y, 0, "w w");
        row(y, 0, "x x");
        due("13 no values at all", y.useless(0), 3);
    }

    private static void promise14And15() {
        PatternForge x = with(1, 2, 0, 0);
        for (int bad : new int[] {-1, 4, FEW, MANY}) {
            due("14 no function", x.open(bad), REFUSED);
            due("15 no function", x.witness(bad, 0), REFUSED);
        }
        due("14 no rows", x.open(0), 1);
        same("15 no rows", witnessOf(x, 0), "2");
        row(x, 0, "| 2 3 2");
        due("14 two", x.open(0), 2);
        same("15 two", witnessOf(x, 0), "02");
        row(x, 0, "0 | 2 0 _ 2");
        due("14 still two", x.open(0), 2);
        same("15 still two", witnessOf(x, 0), "03");
        row(x, 0, "0 _ 2");
        due("14 three", x.open(0), 3);
        same("15 three", witnessOf(x, 0), "122");
        row(x, 0, "1 2 _ 2");
        same("15 the next", witnessOf(x, 0), "132");
        due("15 k", x.witness(0, -1), REFUSED);
        due("15 k", x.witness(0, 3), REFUSED);
        due("15 k", x.witness(0, MANY) + x.witness(0, FEW), 2 * REFUSED);
        row(x, 0, "w w");
        due("14 none", x.open(0), 0);
        due("15 none", x.witness(0, 0), REFUSED);
        // Of size five, and beyond.
        row(x, 1, "! 1 3 1 2 3 2");
        due("14 five", x.open(1), 5);
        same("15 five", witnessOf(x, 1), "13123");
        row(x, 2, "! 0 0 0 0 0 2 2");
        due("14 six is beyond", x.open(2), 0);
        due("15 six is beyond", x.witness(2, 0), REFUSED);
        // Constructors without values leave nothing open.
        due("14 no values", with(1, 2).open(0), 0);
        due("15 no values", with(1, 2).witness(0, 0), REFUSED);
    }

    private static void promise16() {
        PatternForge x = with(0, 1);
        write(x, "w");
        due("16 WRONG", x.row(0), WRONG);
        due("16 row: empty", x.token(VAR, 0), 1);
        due("16 give: WRONG", x.give(), WRONG);
        due("16 give: empty", x.token(CON, 0), 1);
        due("16 give: a value", x.give(), 1);
        due("16 give: empty, too", x.token(ANY, 0), 1);
        due("16 refused", x.row(9), REFUSED);
        due("16 row: it stays", x.token(CON, 0), 2);
        due("16 a row", x.row(0), 1);
        due("16 row: empty, too", x.token(ANY, 0), 1);
        // The draft is in the way of nothing else.
        due("16 run", x.run(0), OK);
        due("16 the same draft", x.token(ANY, 0), 2);
    }

    public static void main(String[] args) {
        promise1();
        promise2();
        promise3();
        promise4Patterns();
        promise4Limits();
        promise5();
        promise6();
        promise7();
        promise7Matching();
        promise7Orders();
        promise8();
        promise9();
        promise9Long();
        promise9Hundred();
        promise10();
        promise11();
        promise12();
        promise13();
        promise14And15();
        promise16();
        end();
    }
}
