/** What the tests of the project share: a short way to write terms, and how answers are compared. */
public abstract class Checks {
    protected static final int ANY = 0, VAR = 1, CON = 2, OR = 3, NOT = 4, CALL = 5;
    protected static final int REFUSED = -1, WRONG = -2, OK = 0, STUCK = 1, LONG = 2, BIG = 3;
    protected static final int FEW = Integer.MIN_VALUE, MANY = Integer.MAX_VALUE;

    // No list is longer than this, so a class that never ends one does not keep a test from ending.
    private static final int LONGEST = 64;

    protected static int wrong = 0;

    protected static void due(String what, long got, long want) {
        if (got != want) {
            wrong++;
            System.out.println(what + ": answered " + got + ", due is " + want);
        }
    }

    protected static void same(String what, String got, String want) {
        if (!got.equals(want)) {
            wrong++;
            System.out.println(what + ": got " + got + ", due is " + want);
        }
    }

    /** Constructors 0 .. with these arities. */
    protected static PatternForge with(int... arities) {
        PatternForge x = new PatternForge();
        for (int arity : arities) {
            x.con(arity);
        }
        return x;
    }

    /** Appends tokens: '_' ANY, 'w' .. 'z' VAR 0 .. 3, '0' .. '5' CON, '|' OR, '!' NOT, 'F' .. 'I' CALL 0 .. 3. */
    protected static void write(PatternForge x, String text) {
        for (char c : text.replace(" ", "").toCharArray()) {
            int answer = c == '_' ? x.token(ANY, 0)
                    : c == '|' ? x.token(OR, 0)
                    : c == '!' ? x.token(NOT, 0)
                    : c >= 'w' && c <= 'z' ? x.token(VAR, c - 'w')
                    : c >= 'F' && c <= 'I' ? x.token(CALL, c - 'F')
                    : x.token(CON, c - '0');
            if (answer < 0) {
                due("token " + c + " of " + text, answer, 1);
            }
        }
    }

    protected static int row(PatternForge x, int f, String text) {
        write(x, text);
        return x.row(f);
    }

    protected static int give(PatternForge x, String text) {
        write(x, text);
        return x.give();
    }

    protected static int run(PatternForge x, int f, String text) {
        give(x, text);
        return x.run(f);
    }

    /** With constructors 0 and 1 of the arities 0 and 1: the value of this size that is made of them. */
    protected static String tower(int size) {
        return "1".repeat(size - 1) + "0";
    }

    protected static String resultOf(PatternForge x) {
        StringBuilder text = new StringBuilder();
        for (int k = 0; k < LONGEST && x.result(k) >= 0; k++) {
            text.append(x.result(k));
        }
        return text.toString();
    }

    protected static String witnessOf(PatternForge x, int f) {
        StringBuilder text = new StringBuilder();
        for (int k = 0; k < LONGEST && x.witness(f, k) >= 0; k++) {
            text.append(x.witness(f, k));
        }
        return text.toString();
    }

    protected static void end() {
        if (wrong != 0) {
            System.out.println(wrong + " answers are not as due");
            System.exit(1);
        }
    }
}
