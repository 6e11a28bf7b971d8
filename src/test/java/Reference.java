import java.util.ArrayDeque;
import java.util.ArrayList;
import java.util.Collections;
import java.util.Deque;
import java.util.HashSet;
import java.util.LinkedHashSet;
import java.util.List;
import java.util.Set;
import java.util.TreeSet;
import java.util.regex.Matcher;
import java.util.regex.Pattern;

/**
 * The document once more, slowly and in another form: clauses are sets of literals (v + 1 for the
 * variable v, and the same number below zero for its negation) that know their parents themselves,
 * a state is a list that is never changed, and a model is found by trying.
 */
public final class Reference {
    static final class Clause {
        final Set<Integer> literals;
        final Clause with;
        final Clause without;
        final int pivot;

        Clause(Set<Integer> literals, Clause with, Clause without, int pivot) {
            this.literals = literals;
            this.with = with;
            this.without = without;
            this.pivot = pivot;
        }

        int depth() {
            return with == null ? 0 : 1 + Math.max(with.depth(), without.depth());
        }

        void collect(Set<Clause> derivation) {
            if (derivation.add(this) && with != null) {
                with.collect(derivation);
                without.collect(derivation);
            }
        }
    }

    static final class Failure extends RuntimeException {
        private static final long serialVersionUID = 1;
        final int code;
        final int position;

        Failure(int code, int position) {
            this.code = code;
            this.position = position;
        }
    }

    private int variables = 4;
    private List<Clause> clauses = new ArrayList<>();
    private final StringBuilder input = new StringBuilder();
    private String output = "";
    private int errorCode = 0;
    private int errorPosition = -1;
    private final Deque<List<Clause>> undoable = new ArrayDeque<>();
    private final List<List<Clause>> slots = new ArrayList<>(Collections.nCopies(2, null));

    // ---- input

    public int append(int a, int b, int c, int d, int e) {
        if (input.length() > 480) {
            return -1;
        }
        for (int word : new int[] {a, b, c, d, e}) {
            input.append((char) (word >>> 24)).append((char) (word >>> 16 & 255))
                .append((char) (word >>> 8 & 255)).append((char) (word & 255));
        }
        return input.length();
    }

    public boolean truncate(int length) {
        if (length < 0 || length > input.length()) {
            return false;
        }
        input.setLength(length);
        return true;
    }

    public int load() {
        int oldVariables = variables;
        List<Clause> old = clauses;
        try {
            clauses = new ArrayList<>();
            parse(true);
        } catch (Failure e) {
            variables = oldVariables;
            clauses = old;
            throw failed(e);
        }
        undoable.clear();
        Collections.fill(slots, null);
        return clauses.size();
    }

    public int play() {
        List<Clause> old = clauses;
        int commands;
        try {
            commands = parse(false);
        } catch (Failure e) {
            clauses = old;
            throw failed(e);
        }
        remember(old);
        return commands;
    }

    private IllegalArgumentException failed(Failure e) {
        errorCode = e.code;
        errorPosition = e.position;
        return new IllegalArgumentException();
    }

    public int parseError() {
        return errorCode;
    }

    public int parseErrorPosition() {
        return errorPosition;
    }

    // ---- the parser: all tokens are found ahead; each one is {kind, text, position}

    private static final Pattern TOKEN =
        Pattern.compile("([a-z]+)|([0-9]+)|(;)|(-)|([ \\t\\n]+)|(.)", Pattern.DOTALL);

    private List<String> tokens;
    private List<Integer> positions;
    private int at;

    private int parse(boolean isText) {
        String text = input.toString();
        input.setLength(0);
        errorCode = 0;
        errorPosition = -1;
        tokens = new ArrayList<>();
        positions = new ArrayList<>();
        at = 0;
        Matcher matcher = TOKEN.matcher(text);
        while (matcher.find()) {
            if (matcher.group(5) == null) {
                tokens.add(matcher.group());
                positions.add(matcher.start());
            }
        }
        tokens.add("");
        positions.add(text.length());
        if (isText) {
            take("logic");
            variables = number(1, 12);
            take(";");
        }
        int commands = 0;
        while (!tokens.get(at).isEmpty()) {
            command();
            take(";");
            commands++;
        }
        return commands;
    }

    private void take(String token) {
        if (!tokens.get(at).equals(token)) {
            throw new Failure(1, positions.get(at));
        }
        at++;
    }

    private int number(int least, int greatest) {
        String token = tokens.get(at);
        if (!token.matches("[0-9]+")) {
            throw new Failure(1, positions.get(at));
        }
        if (token.length() > 4 || Integer.parseInt(token) < least
            || Integer.parseInt(token) > greatest) {
            throw new Failure(2, positions.get(at));
        }
        at++;
        return Integer.parseInt(token);
    }

    private int clauseNumber() {
        return number(0, clauses.size() - 1);
    }

    private int variable() {
        String token = tokens.get(at);
        if (!token.matches("[a-z]")) {
            throw new Failure(1, positions.get(at));
        }
        if (token.charAt(0) - 'a' >= variables) {
            throw new Failure(2, positions.get(at));
        }
        at++;
        return token.charAt(0) - 'a';
    }

    private int literal(Set<Integer> before) {
        int sign = 1;
        if (tokens.get(at).equals("-")) {
            sign = -1;
            at++;
        }
        int position = positions.get(at);
        int literal = sign * (variable() + 1);
        if (before.contains(-literal)) {
            throw new Failure(3, position);
        }
        return literal;
    }

    private Set<Integer> literals() {
        Set<Integer> found = new TreeSet<>();
        while (tokens.get(at).matches("[a-z]+|-")) {
            found.add(literal(found));
        }
        return found;
    }

    private void command() {
        int start = positions.get(at);
        String word = tokens.get(at);
        if (word.equals("clause") && clauses.size() == 60) {
            throw new Failure(4, start);
        }
        at++;
        int position = positions.get(at < positions.size() ? at : at - 1);
        switch (word) {
            case "clause":
                Set<Integer> literals = literals();
                if (number(literals) >= 0) {
                    throw new Failure(4, start);
                }
                clauses = plus(new Clause(literals, null, null, -1));
                break;
            case "resolve":
                int first = clauseNumber();
                position = positions.get(at);
                Clause resolvent = resolvent(first, clauseNumber());
                if (resolvent == null || number(resolvent.literals) >= 0 || clauses.size() == 60) {
                    throw new Failure(4, position);
                }
                clauses = plus(resolvent);
                break;
            case "saturate":
                step(number(1, 99));
                break;
            case "drop":
                int dropped = clauseNumber();
                if (isParent(dropped)) {
                    throw new Failure(4, position);
                }
                clauses = minus(dropped);
                break;
            case "negate":
                clauses = negated(Set.of(variable()));
                break;
            case "invert":
                Set<Integer> all = new HashSet<>();
                for (int v = 0; v < variables; v++) {
                    all.add(v);
                }
                clauses = negated(all);
                break;
            case "reduce":
                dropSubsumed();
                break;
            case "expect":
                if (!condition()) {
                    throw new Failure(5, start);
                }
                break;
            default:
                throw new Failure(1, start);
        }
    }

    private boolean condition() {
        String word = tokens.get(at);
        int position = positions.get(at);
        at++;
        switch (word) {
            case "clauses":
                return number(0, 9999) == clauses.size();
            case "models":
                return number(0, 9999) == modelCount();
            case "refuted":
                return emptyClause() >= 0;
            case "open":
                return emptyClause() < 0;
            case "implied":
                return implies(clauses, literals());
            case "fixed":
                return propagated().contains(literal(Set.of()));
            case "subsumed":
                return number(0, 9999) == subsumedClauses();
            case "size":
                int sized = clauses.get(clauseNumber()).literals.size();
                return number(0, 9999) == sized;
            case "depth":
                int depth = clauses.get(clauseNumber()).depth();
                return number(0, 9999) == depth;
            default:
                throw new Failure(1, position);
        }
    }

    // ---- states

    private List<Clause> plus(Clause added) {
        List<Clause> made = new ArrayList<>(clauses);
        made.add(added);
        return made;
    }

    private List<Clause> minus(int clause) {
        List<Clause> made = new ArrayList<>(clauses);
        made.remove(clause);
        return made;
    }

    private List<Clause> negated(Set<Integer> negatedVariables) {
        List<Clause> made = new ArrayList<>();
        for (Clause clause : clauses) {
            Set<Integer> literals = new TreeSet<>();
            for (int literal : clause.literals) {
                literals.add(negatedVariables.contains(Math.abs(literal) - 1) ? -literal : literal);
            }
            Clause with = clause.with == null ? null : made.get(clauses.indexOf(clause.with));
            Clause without =
                clause.without == null ? null : made.get(clauses.indexOf(clause.without));
            boolean isSwapped = negatedVariables.contains(clause.pivot);
            made.add(new Clause(literals, isSwapped ? without : with, isSwapped ? with : without,
                clause.pivot));
        }
        return made;
    }

    private void remember(List<Clause> old) {
        undoable.push(old);
        if (undoable.size() > 8) {
            undoable.removeLast();
        }
    }

    private int number(Set<Integer> literals) {
        for (int k = 0; k < clauses.size(); k++) {
            if (clauses.get(k).literals.equals(literals)) {
                return k;
            }
        }
        return -1;
    }

    private boolean isParent(int parent) {
        Clause wanted = clauses.get(parent);
        return clauses.stream().anyMatch(c -> c.with == wanted || c.without == wanted);
    }

    private Clause clause(int clause) {
        if (clause < 0 || clause >= clauses.size()) {
            throw new IndexOutOfBoundsException();
        }
        return clauses.get(clause);
    }

    private void checkVariable(int variable) {
        if (variable < 0 || variable >= variables) {
            throw new IndexOutOfBoundsException();
        }
    }

    private void checkMask(int mask) {
        if (mask < 0 || mask >= 1 << variables) {
            throw new IllegalArgumentException();
        }
    }

    private Set<Integer> literals(int positive, int negative) {
        checkMask(positive);
        checkMask(negative);
        Set<Integer> literals = new TreeSet<>();
        for (int v = 0; v < variables; v++) {
            if ((positive >> v & 1) == 1) {
                literals.add(v + 1);
            }
            if ((negative >> v & 1) == 1) {
                literals.add(-v - 1);
            }
            if ((positive >> v & negative >> v & 1) == 1) {
                throw new IllegalArgumentException();
            }
        }
        return literals;
    }

    private static int mask(Set<Integer> literals, int sign) {
        int mask = 0;
        for (int literal : literals) {
            if (literal * sign > 0) {
                mask += 1 << literal * sign - 1;
            }
        }
        return mask;
    }

    // ---- clauses

    public int variableCount() {
        return variables;
    }

    public int clauseCount() {
        return clauses.size();
    }

    public int positiveOf(int clause) {
        return mask(clause(clause).literals, 1);
    }

    public int negativeOf(int clause) {
        return mask(clause(clause).literals, -1);
    }

    public int sizeOf(int clause) {
        return clause(clause).literals.size();
    }

    public int find(int positive, int negative) {
        return number(literals(positive, negative));
    }

    public boolean isGiven(int clause) {
        return clause(clause).with == null;
    }

    public int positiveParent(int clause) {
        return clauses.indexOf(clause(clause).with);
    }

    public int negativeParent(int clause) {
        return clauses.indexOf(clause(clause).without);
    }

    public int variableOf(int clause) {
        return clause(clause).pivot;
    }

    public int depthOf(int clause) {
        return clause(clause).depth();
    }

    public int deepestClause() {
        int best = -1;
        for (int k = clauses.size() - 1; k >= 0; k--) {
            if (best < 0 || clauses.get(k).depth() >= clauses.get(best).depth()) {
                best = k;
            }
        }
        return best;
    }

    private Set<Clause> derivation(int clause) {
        Set<Clause> derivation = new LinkedHashSet<>();
        clause(clause).collect(derivation);
        return derivation;
    }

    public int derivationSize(int clause) {
        return derivation(clause).size();
    }

    public long premises(int clause) {
        long mask = 0;
        for (Clause part : derivation(clause)) {
            if (part.with == null) {
                mask += 1L << clauses.indexOf(part);
            }
        }
        return mask;
    }

    public int emptyClause() {
        return number(Set.of());
    }

    public int clausesOfSize(int size) {
        return (int) clauses.stream().filter(c -> c.literals.size() == size).count();
    }

    public int hornClauses() {
        return (int) clauses.stream()
            .filter(c -> c.literals.stream().filter(literal -> literal > 0).count() < 2).count();
    }

    public int occurrences(int variable, boolean isPositive) {
        checkVariable(variable);
        return occurrences(isPositive ? variable + 1 : -variable - 1);
    }

    private int occurrences(int literal) {
        return (int) clauses.stream().filter(c -> c.literals.contains(literal)).count();
    }

    public int mostFrequentVariable() {
        int best = 0;
        for (int v = 1; v < variables; v++) {
            if (occurrences(v + 1) + occurrences(-v - 1)
                > occurrences(best + 1) + occurrences(-best - 1)) {
                best = v;
            }
        }
        return best;
    }

    private int pure(int sign) {
        int mask = 0;
        for (int v = 1; v <= variables; v++) {
            if (occurrences(v * sign) > 0 && occurrences(-v * sign) == 0) {
                mask += 1 << v - 1;
            }
        }
        return mask;
    }

    public int purePositive() {
        return pure(1);
    }

    public int pureNegative() {
        return pure(-1);
    }

    // ---- resolution and subsumption

    public int clashes(int clause, int other) {
        Set<Integer> there = clause(other).literals;
        return (int) clause(clause).literals.stream().filter(a -> there.contains(-a)).count();
    }

    public boolean areResolvable(int clause, int other) {
        return clashes(clause, other) == 1;
    }

    private Clause resolvent(int clause, int other) {
        if (!areResolvable(clause, other)) {
            return null;
        }
        Clause a = clauses.get(clause);
        Clause b = clauses.get(other);
        Set<Integer> literals = new TreeSet<>(a.literals);
        literals.addAll(b.literals);
        int pivot = -1;
        for (int literal : a.literals) {
            if (b.literals.contains(-literal)) {
                pivot = Math.abs(literal) - 1;
            }
        }
        literals.remove(pivot + 1);
        literals.remove(-pivot - 1);
        boolean isWith = a.literals.contains(pivot + 1);
        return new Clause(literals, isWith ? a : b, isWith ? b : a, pivot);
    }

    public int resolventPositive(int clause, int other) {
        Clause resolvent = resolvent(clause, other);
        return resolvent == null ? -1 : mask(resolvent.literals, 1);
    }

    public int resolventNegative(int clause, int other) {
        Clause resolvent = resolvent(clause, other);
        return resolvent == null ? -1 : mask(resolvent.literals, -1);
    }

    public int resolvablePairs() {
        int found = 0;
        for (int i = 0; i < clauses.size(); i++) {
            for (int j = i + 1; j < clauses.size(); j++) {
                found += areResolvable(i, j) ? 1 : 0;
            }
        }
        return found;
    }

    public boolean subsumes(int clause, int other) {
        clause(clause);
        return clause(other).literals.containsAll(clause(clause).literals);
    }

    public int subsumerOf(int clause) {
        clause(clause);
        for (int k = 0; k < clauses.size(); k++) {
            if (k != clause && subsumes(k, clause)) {
                return k;
            }
        }
        return -1;
    }

    public int subsumedClauses() {
        int found = 0;
        for (int k = 0; k < clauses.size(); k++) {
            found += subsumerOf(k) >= 0 ? 1 : 0;
        }
        return found;
    }

    /** The pair of the next step, found anew from the first pair on; null if there is none. */
    private int[] nextPair() {
        if (emptyClause() >= 0 || clauses.size() == 60) {
            return null;
        }
        for (int j = 0; j < clauses.size(); j++) {
            for (int i = 0; i < j; i++) {
                Clause resolvent = resolvent(i, j);
                if (resolvent != null && clauses.stream()
                    .noneMatch(c -> resolvent.literals.containsAll(c.literals))) {
                    return new int[] {i, j};
                }
            }
        }
        return null;
    }

    private int step(int most) {
        int made = 0;
        for (int[] pair = nextPair(); pair != null && made < most; pair = nextPair()) {
            clauses = plus(resolvent(pair[0], pair[1]));
            made++;
        }
        return made;
    }

    public int nextFirst() {
        int[] pair = nextPair();
        return pair == null ? -1 : pair[0];
    }

    public int nextSecond() {
        int[] pair = nextPair();
        return pair == null ? -1 : pair[1];
    }

    public int stepsToEmpty() {
        List<Clause> old = clauses;
        int steps = 0;
        while (emptyClause() < 0 && step(1) == 1) {
            steps++;
        }
        boolean isFound = emptyClause() >= 0;
        clauses = old;
        return isFound ? steps : -1;
    }

    // ---- models

    private static boolean isTrue(Set<Integer> literals, int assignment) {
        return literals.stream()
            .anyMatch(literal -> literal > 0 == ((assignment >> Math.abs(literal) - 1 & 1) == 1));
    }

    private List<Integer> models(List<Clause> of) {
        List<Integer> found = new ArrayList<>();
        for (int assignment = 0; assignment < 1 << variables; assignment++) {
            boolean isModel = true;
            for (Clause clause : of) {
                if (!isTrue(clause.literals, assignment)) {
                    isModel = false;
                    break;
                }
            }
            if (isModel) {
                found.add(assignment);
            }
        }
        return found;
    }

    private boolean implies(List<Clause> of, Set<Integer> literals) {
        return models(of).stream().allMatch(model -> isTrue(literals, model));
    }

    public int modelCount() {
        return models(clauses).size();
    }

    public int firstModel() {
        List<Integer> models = models(clauses);
        return models.isEmpty() ? -1 : Collections.min(models);
    }

    public int modelAt(int index) {
        List<Integer> models = models(clauses);
        return index < 0 || index >= models.size() ? -1 : models.get(index);
    }

    public boolean isTrue(int clause, int assignment) {
        clause(clause);
        checkMask(assignment);
        return isTrue(clauses.get(clause).literals, assignment);
    }

    public int falseClauses(int assignment) {
        checkMask(assignment);
        return (int) clauses.stream().filter(c -> !isTrue(c.literals, assignment)).count();
    }

    public int bestFlip(int assignment) {
        checkMask(assignment);
        int best = variables - 1;
        for (int v = variables - 1; v >= 0; v--) {
            if (falseClauses(assignment ^ 1 << v) <= falseClauses(assignment ^ 1 << best)) {
                best = v;
            }
        }
        return best;
    }

    public int alwaysTrue() {
        int mask = 0;
        for (int v = 0; v < variables; v++) {
            mask += implies(clauses, Set.of(v + 1)) ? 1 << v : 0;
        }
        return mask;
    }

    public int alwaysFalse() {
        int mask = 0;
        for (int v = 0; v < variables; v++) {
            mask += implies(clauses, Set.of(-v - 1)) ? 1 << v : 0;
        }
        return mask;
    }

    public boolean isImplied(int positive, int negative) {
        return implies(clauses, literals(positive, negative));
    }

    public boolean isRedundant(int clause) {
        return implies(minus(clauses.indexOf(clause(clause))), clause(clause).literals);
    }

    public double modelShare() {
        return modelCount() / (double) (1 << variables);
    }

    private Set<Integer> propagated() {
        Set<Integer> fixed = new HashSet<>();
        int before;
        do {
            before = fixed.size();
            for (Clause clause : clauses) {
                List<Integer> left = new ArrayList<>();
                for (int literal : clause.literals) {
                    if (clause.literals.size() == 1 || !fixed.contains(-literal)) {
                        left.add(literal);
                    }
                }
                if (left.size() == 1) {
                    fixed.add(left.get(0));
                }
            }
        } while (fixed.size() > before);
        return fixed;
    }

    public int fixedTrue() {
        return mask(propagated(), 1);
    }

    public int fixedFalse() {
        return mask(propagated(), -1);
    }

    public boolean hasConflict() {
        Set<Integer> fixed = propagated();
        return fixed.stream().anyMatch(literal -> fixed.contains(-literal))
            || clauses.stream()
                .anyMatch(c -> c.literals.stream().allMatch(literal -> fixed.contains(-literal)));
    }

    // ---- changes

    public int addClause(int positive, int negative) {
        Set<Integer> literals = literals(positive, negative);
        return add(new Clause(literals, null, null, -1));
    }

    private int add(Clause clause) {
        if (number(clause.literals) >= 0 || clauses.size() == 60) {
            throw new IllegalStateException();
        }
        remember(clauses);
        clauses = plus(clause);
        return clauses.size() - 1;
    }

    public int resolve(int clause, int other) {
        Clause resolvent = resolvent(clause, other);
        if (resolvent == null) {
            throw new IllegalArgumentException();
        }
        return add(resolvent);
    }

    public int saturate(int steps) {
        if (steps < 1 || steps > 99) {
            throw new IllegalArgumentException();
        }
        if (nextPair() == null) {
            throw new IllegalStateException();
        }
        remember(clauses);
        return step(steps);
    }

    public int dropClause(int clause) {
        clause(clause);
        if (isParent(clause)) {
            throw new IllegalStateException();
        }
        remember(clauses);
        clauses = minus(clause);
        return modelCount();
    }

    public int negateVariable(int variable) {
        checkVariable(variable);
        remember(clauses);
        List<Clause> old = clauses;
        clauses = negated(Set.of(variable));
        int different = 0;
        for (int k = 0; k < old.size(); k++) {
            different += old.get(k).literals.equals(clauses.get(k).literals) ? 0 : 1;
        }
        return different;
    }

    private int dropSubsumed() {
        int dropped = 0;
        for (int k = clauses.size() - 1; k >= 0; k--) {
            if (!isParent(k) && subsumerOf(k) >= 0) {
                clauses = minus(k);
                dropped++;
                k = clauses.size();
            }
        }
        return dropped;
    }

    public int reduce() {
        remember(clauses);
        return dropSubsumed();
    }

    public int undo() {
        if (undoable.isEmpty()) {
            throw new IllegalStateException();
        }
        clauses = undoable.pop();
        return undoable.size();
    }

    public int undoDepth() {
        return undoable.size();
    }

    public boolean save(int slot) {
        if (slot != 0 && slot != 1) {
            throw new IndexOutOfBoundsException();
        }
        return slots.set(slot, clauses) == null;
    }

    public int restore(int slot) {
        if (slot != 0 && slot != 1) {
            throw new IndexOutOfBoundsException();
        }
        if (slots.get(slot) == null) {
            throw new IllegalStateException();
        }
        clauses = slots.get(slot);
        undoable.clear();
        return clauses.size();
    }

    // ---- output text

    public int writeClause(int clause) {
        clause(clause);
        List<String> words = new ArrayList<>();
        for (int v = 0; v < variables; v++) {
            if (clauses.get(clause).literals.contains(v + 1)) {
                words.add("" + (char) ('a' + v));
            } else if (clauses.get(clause).literals.contains(-v - 1)) {
                words.add("-" + (char) ('a' + v));
            }
        }
        output = words.isEmpty() ? "#" : String.join(" ", words);
        return output.length();
    }

    public int outputByte(int index) {
        return index < 0 || index >= output.length() ? -1 : output.charAt(index);
    }
}
