import java.util.ArrayList;
import java.util.List;

/**
 * Runs of calls against a second writing of the document, which works by recursion over trees and shares no idea with
 * the class. The calls come out of a fixed sequence of numbers, so each run of this test makes the same ones.
 */
public final class ModelTests {
    private static final int ANY = 0, VAR = 1, CON = 2, OR = 3, NOT = 4, CALL = 5;
    private static final int OBJECTS = 4_000, CALLS = 512;

    private static long seed = 20_261_115L;

    /** A number from 0 up to most. */
    private static int number(int most) {
        seed = seed * 6364136223846793005L + 1442695040888963407L;
        return (int) ((seed >>> 33) % (most + 1));
    }

    private record Token(int kind, int v) { }

    /** A term of tokens, or a value where all tokens are CONs. */
    private record Tree(Token token, List<Tree> parts) {
        int size() {
            int size = 1;
            for (Tree part : parts) {
                size += part.size();
            }
            return size;
        }

        void list(List<Integer> into) {
            into.add(token.v);
            for (Tree part : parts) {
                part.list(into);
            }
        }

        List<Integer> list() {
            List<Integer> all = new ArrayList<>();
            list(all);
            return all;
        }
    }

    private record Row(Tree pattern, Tree outcome) { }

    private static final class Stop extends Exception {
        private static final long serialVersionUID = 1L;
        final int status;
        final int function;

        Stop(int status, int function) {
            super(null, null, false, false);
            this.status = status;
            this.function = function;
        }
    }

    private static final class Model {
        final List<Integer> arities = new ArrayList<>();
        final List<Token> draft = new ArrayList<>();
        final List<List<Row>> rows = List.of(new ArrayList<>(), new ArrayList<>(), new ArrayList<>(), new ArrayList<>());
        Tree argument = null;
        int status = -9;
        int steps = 0;
        int function = -1;
        Tree came = null;
        int read = 0;

        int con(int arity) {
            if (arities.size() == 6 || arity < 0 || arity > 2) {
                return -1;
            }
            arities.add(arity);
            return arities.size() - 1;
        }

        int token(int kind, int v) {
            boolean right = kind == ANY || kind == OR || kind == NOT
                    || (kind == VAR || kind == CALL) && v >= 0 && v <= 3
                    || kind == CON && v >= 0 && v < arities.size();
            if (!right || draft.size() == 40) {
                return -1;
            }
            draft.add(new Token(kind, v));
            return draft.size();
        }

        /** Reads one term of the draft, made of these kinds; null if there is none. */
        Tree read(String kinds) {
            if (read >= draft.size()) {
                return null;
            }
            Token token = draft.get(read++);
            if (kinds.indexOf('0' + token.kind) < 0) {
                return null;
            }
            int operands = switch (token.kind) {
                case CON -> arities.get(token.v);
                case OR -> 2;
                case NOT, CALL -> 1;
                default -> 0;
            };
            List<Tree> parts = new ArrayList<>();
            for (int i = 0; i < operands; i++) {
                Tree part = read(kinds);
                if (part == null) {
                    return null;
                }
                parts.add(part);
            }
            return new Tree(token, parts);
        }

        /** Adds the variables of a term, those inside of an OR or NOT twice. */
        void variables(Tree term, boolean closed, List<Integer> into) {
            if (term.token.kind == VAR) {
                into.add(term.token.v);
                if (closed) {
                    into.add(term.token.v);
                }
            }
            for (Tree part : term.parts) {
                variables(part, closed || term.token.kind == OR || term.token.kind == NOT, into);
            }
        }

        Row readRow() {
            read = 0;
            Tree pattern = read("01234");
            if (pattern == null || pattern.size() > 12) {
                return null;
            }
            Tree outcome = read("125");
            if (outcome == null || outcome.size() > 12 || read != draft.size()) {
                return null;
            }
            List<Integer> bound = new ArrayList<>();
            variables(pattern, false, bound);
            List<Integer> used = new ArrayList<>();
            variables(outcome, false, used);
            boolean once = bound.stream().distinct().count() == bound.size();
            return once && bound.containsAll(used) ? new Row(pattern, outcome) : null;
        }

        int row(int f) {
            if (f < 0 || f > 3 || rows.get(f).size() == 5) {
                return -1;
            }
            Row row = readRow();
            draft.clear();
            if (row == null) {
                return -2;
            }
            rows.get(f).add(row);
            return rows.get(f).size();
        }

        int drop(int f) {
            if (f < 0 || f > 3) {
                return -1;
            }
            int dropped = rows.get(f).size();
            rows.get(f).clear();
            return dropped;
        }

        int give() {
            read = 0;
            Tree value = read("2");
            boolean right = value != null && read == draft.size();
            draft.clear();
            if (!right) {
                return -2;
            }
            argument = value;
            return value.size();
        }

        boolean matches(Tree pattern, Tree value, Tree[] bound) {
            switch (pattern.token.kind) {
                case ANY:
                    return true;
                case VAR:
                    bound[pattern.token.v] = value;
                    return true;
                case OR:
                    return matches(pattern.parts.get(0), value, bound) || matches(pattern.parts.get(1), value, bound);
                case NOT:
                    return !matches(pattern.parts.get(0), value, bound);
                default:
                    boolean all = pattern.token.v == value.token.v;
                    for (int i = 0; all && i < pattern.parts.size(); i++) {
                        all = matches(pattern.parts.get(i), value.parts.get(i), bound);
                    }
                    return all;
            }
        }

        int rowFor(int f, Tree value) {
            for (int row = 0; row < rows.get(f).size(); row++) {
                if (matches(rows.get(f).get(row).pattern, value, new Tree[4])) {
                    return row;
                }
            }
            return -1;
        }

        Tree call(int f, Tree value) throws Stop {
            if (steps == 100) {
                throw new Stop(2, f);
            }
            steps++;
            int row = rowFor(f, value);
            if (row < 0) {
                throw new Stop(1, f);
            }
            Tree[] bound = new Tree[4];
            matches(rows.get(f).get(row).pattern, value, bound);
            return workOut(rows.get(f).get(row).outcome, bound, f);
        }

        Tree workOut(Tree term, Tree[] bound, int f) throws Stop {
            if (term.token.kind == VAR) {
                return bound[term.token.v];
            }
            List<Tree> parts = new ArrayList<>();
            for (Tree part : term.parts) {
                parts.add(workOut(part, bound, f));
            }
            if (term.token.kind == CALL) {
                return call(term.token.v, parts.get(0));
            }
            Tree made = new Tree(term.token, parts);
            if (made.size() > 40) {
                throw new Stop(3, f);
            }
            return made;
        }

        int run(int f) {
            if (f < 0 || f > 3 || argument == null) {
                return -1;
            }
            steps = 0;
            came = null;
            try {
                came = call(f, argument);
                status = 0;
                function = -1;
            } catch (Stop stop) {
                status = stop.status;
                function = stop.function;
            }
            return status;
        }

        int result(int k) {
            return came == null || k < 0 || k >= came.size() ? -1 : came.list().get(k);
        }

        int ran(int what) {
            if (status == -9) {
                return -1;
            }
            return what == 0 ? (came == null ? 0 : came.size()) : what == 1 ? steps : what == 2 ? function : -1;
        }

        int use() {
            if (came == null) {
                return -1;
            }
            argument = came;
            return argument.size();
        }

        int taken(int f) {
            return f < 0 || f > 3 || argument == null ? -2 : rowFor(f, argument);
        }

        /** All values of a size, each made of smaller ones. */
        List<Tree> values(int size) {
            List<Tree> all = new ArrayList<>();
            for (int c = 0; c < arities.size(); c++) {
                Token token = new Token(CON, c);
                if (arities.get(c) == 0 && size == 1) {
                    all.add(new Tree(token, List.of()));
                } else if (arities.get(c) == 1 && size > 1) {
                    for (Tree part : values(size - 1)) {
                        all.add(new Tree(token, List.of(part)));
                    }
                } else if (arities.get(c) == 2) {
                    for (int left = 1; left < size - 1; left++) {
                        List<Tree> seconds = values(size - 1 - left);
                        for (Tree first : values(left)) {
                            for (Tree second : seconds) {
                                all.add(new Tree(token, List.of(first, second)));
                            }
                        }
                    }
                }
            }
            return all;
        }

        List<Tree> takenBy(int f, int row, int size) {
            List<Tree> all = new ArrayList<>();
            for (Tree value : values(size)) {
                if (rowFor(f, value) == row) {
                    all.add(value);
                }
            }
            return all;
        }

        long count(int f, int row, int size) {
            if (f < 0 || f > 3 || row < -1 || row >= rows.get(f).size() || size < 1 || size > 5) {
                return -1;
            }
            return takenBy(f, row, size).size();
        }

        int useless(int f) {
            if (f < 0 || f > 3) {
                return -1;
            }
            int sum = 0;
            for (int row = 0; row < rows.get(f).size(); row++) {
                long values = 0;
                for (int size = 1; size <= 5; size++) {
                    values += count(f, row, size);
                }
                sum += values == 0 ? 1 << row : 0;
            }
            return sum;
        }

        int open(int f) {
            if (f < 0 || f > 3) {
                return -1;
            }
            for (int size = 1; size <= 5; size++) {
                if (count(f, -1, size) > 0) {
                    return size;
                }
            }
            return 0;
        }

        int witness(int f, int k) {
            int size = open(f);
            if (size < 1 || k < 0 || k >= size) {
                return -1;
            }
            List<Integer> least = null;
            for (Tree value : takenBy(f, -1, size)) {
                List<Integer> list = value.list();
                if (least == null || list.toString().compareTo(least.toString()) < 0) {
                    least = list;
                }
            }
            return least.get(k);
        }
    }

    /** Both of them, and what was called, so that a fault can be told whole. */
    private static final class Pair {
        final PatternForge forge = new PatternForge();
        final Model model = new Model();
        final StringBuilder calls = new StringBuilder();
        int made = 0;
        boolean same = true;

        void check(String call, long got, long want) {
            made++;
            calls.append(call).append(" = ").append(got).append('\n');
            if (got != want && same) {
                same = false;
                System.out.println(calls + "the last one's due is " + want);
            }
        }

        void token(int kind, int v) {
            check("token(" + kind + ", " + v + ")", forge.token(kind, v), model.token(kind, v));
        }

        /** A term that is right most times; the room is what it should not be larger than. */
        int term(int room, boolean pattern, boolean closed) {
            int constructors = model.arities.size();
            int dice = number(99);
            boolean leaf = room < 2 || dice < 20;
            if (number(199) == 0) {
                token(number(5), number(3));
                return 1;
            }
            if (leaf || constructors == 0) {
                return leafTerm(pattern, closed);
            }
            if (!pattern && dice < 40) {
                token(CALL, number(3));
                return 1 + term(room - 1, false, closed);
            }
            if (pattern && dice < 35) {
                token(NOT, number(9) - 4);
                return 1 + term(room - 1, true, true);
            }
            if (pattern && dice < 50 && room > 2) {
                token(OR, number(9) - 4);
                int first = term(room - 2, true, true);
                return 1 + first + term(room - 1 - first, true, true);
            }
            int c = number(constructors - 1);
            token(CON, c);
            int size = 1;
            for (int i = 0; i < model.arities.get(c); i++) {
                size += term(room - size - (model.arities.get(c) - 1 - i), pattern, closed);
            }
            return size;
        }

        int leafTerm(boolean pattern, boolean closed) {
            int constant = model.arities.indexOf(0);
            if (constant >= 0 && number(2) == 0) {
                List<Integer> constants = new ArrayList<>();
                for (int c = 0; c < model.arities.size(); c++) {
                    if (model.arities.get(c) == 0) {
                        constants.add(c);
                    }
                }
                token(CON, constants.get(number(constants.size() - 1)));
            } else if (pattern && (closed || number(3) == 0)) {
                token(ANY, number(9) - 4);
            } else {
                token(VAR, freeVariable(pattern));
            }
            return 1;
        }

        /** One that the draft does not have yet, for a pattern; one that it has, for a result. */
        int freeVariable(boolean pattern) {
            int v = number(3);
            for (int i = 0; i < 4; i++) {
                Token variable = new Token(VAR, v);
                if (model.draft.contains(variable) != pattern) {
                    return v;
                }
                v = (v + 1) % 4;
            }
            return v;
        }

        void value(int room) {
            int need = 1;
            int constructors = model.arities.size();
            for (int i = 0; i < 60 && need > 0 && constructors > 0; i++) {
                int c = number(constructors - 1);
                for (int j = 0; j < 20 && model.draft.size() + need + model.arities.get(c) > room; j++) {
                    c = number(constructors - 1);
                }
                if (model.draft.size() < room / 2 && model.arities.get(c) == 0) {
                    c = number(constructors - 1);
                }
                token(CON, c);
                need += model.arities.get(c) - 1;
            }
        }

        void act(int f, int k) {
            switch (number(23)) {
                case 0 -> check("con(" + (k % 5 - 1) + ")", forge.con(k % 5 - 1), model.con(k % 5 - 1));
                case 1 -> token(number(7) - 1, number(7) - 1);
                case 2, 3, 4, 5 -> {
                    term(number(3) == 0 ? 13 : 6, true, false);
                    term(number(3) == 0 ? 13 : 6, false, false);
                    check("row(" + f + ")", forge.row(f), model.row(f));
                }
                case 6 -> {
                    if (number(2) == 0) {
                        check("drop(" + f + ")", forge.drop(f), model.drop(f));
                    }
                }
                case 7, 8, 9 -> {
                    value(number(1) == 0 ? 8 : 40);
                    check("give()", forge.give(), model.give());
                }
                case 10, 11, 12, 13, 14 -> {
                    int status = model.run(f);
                    check("run(" + f + ")", forge.run(f), status);
                    if (status >= 0) {
                        statuses[status]++;
                    }
                    for (int what = 0; what < 3; what++) {
                        check("ran(" + what + ")", forge.ran(what), model.ran(what));
                    }
                    for (int i = 0; i < model.ran(0); i++) {
                        check("result(" + i + ")", forge.result(i), model.result(i));
                    }
                }
                case 15 -> check("result(" + k + ")", forge.result(k), model.result(k));
                case 16 -> check("ran(" + k + ")", forge.ran(k), model.ran(k));
                case 17 -> check("use()", forge.use(), model.use());
                case 18 -> check("taken(" + f + ")", forge.taken(f), model.taken(f));
                case 19 -> survey(f, number(6) - 1, number(6));
                case 20 -> check("useless(" + f + ")", forge.useless(f), model.useless(f));
                case 21 -> check("open(" + f + ")", forge.open(f), model.open(f));
                default -> check("witness(" + f + ", " + k + ")", forge.witness(f, k), model.witness(f, k));
            }
        }

        void survey(int f, int row, int size) {
            check("count(" + f + ", " + row + ", " + size + ")", forge.count(f, row, size), model.count(f, row, size));
        }
    }

    /** How many runs ended how, to see that the calls above reach all of them. */
    private static final int[] statuses = new int[4];

    private static boolean sameThroughout() {
        Pair pair = new Pair();
        int first = number(6);
        for (int i = 0; i < first; i++) {
            int arity = i == 0 ? 0 : number(2);
            pair.check("con(" + arity + ")", pair.forge.con(arity), pair.model.con(arity));
        }
        for (int i = 0; i < CALLS && pair.made < CALLS - 100 && pair.same; i++) {
            int f = number(19) == 0 ? number(7) - 2 : number(3);
            int k = number(7) - 1;
            pair.act(f, k);
        }
        return pair.same;
    }

    public static void main(String[] args) {
        boolean same = true;
        for (int i = 0; i < OBJECTS && same; i++) {
            same = sameThroughout();
        }
        System.out.println("runs OK, STUCK, LONG, BIG: " + statuses[0] + ", " + statuses[1] + ", " + statuses[2] + ", "
                + statuses[3]);
        for (int status = 0; status < 4; status++) {
            same &= statuses[status] > 0;
        }
        if (!same) {
            System.exit(1);
        }
    }
}
