/** Keeps and tries proofs by induction of equations between recursive functions. */
public final class InductionProver {
    public static final int MAX_TEXT = 48;
    public static final int MAX_FUNCS = 8;
    public static final int MAX_FORMULAS = 8;
    public static final int MAX_GOALS = 8;
    public static final int STEP_LIMIT = 128;
    public static final int SORT_NAT = 0;
    public static final int SORT_LIST = 1;
    public static final int OK = 0;
    public static final int ERR_SYNTAX = -1;
    public static final int ERR_FORM = -2;
    public static final int ERR_DUP = -3;
    public static final int ERR_FULL = -4;
    public static final int ERR_STATE = -5;
    public static final int ERR_ARG = -6;
    public static final int ERR_LIMIT = -7;
    public static final int ERR_NOMATCH = -8;
    public static final int EQUAL = 1;
    public static final int DIFFERENT = 2;
    public static final int UNKNOWN = 3;
    public static final int ST_NONE = 0;
    public static final int ST_OPEN = 1;
    public static final int ST_ACTIVE = 2;
    public static final int ST_PROVED = 3;

    private static final int NONE = -1;
    private static final int BYTE_VALUES = 256;
    private static final int FED_BYTES = 16;
    private static final int MAX_ARITY = 3;
    private static final int VARIABLES = 16;
    private static final int FIRST_LIST_VARIABLE = 8;
    private static final int VARIABLES_OF_A_SORT = 8;
    private static final int MAX_NUMBER = 7;
    private static final int MAX_LIST = 4;
    private static final int MAX_ELEMENT = 3;

    // Every text lies in a numbered slot of one array, so that a text is handed on as an int.
    private static final int BUFFER = 0;
    // Two slots a formula: left, right.
    private static final int FORMULA_SLOTS = 1;
    // Four slots a function: left and right for Z or N, left and right for S or C.
    private static final int RULE_SLOTS = FORMULA_SLOTS + 2 * MAX_FORMULAS;
    // Four slots a goal: left, right, hypothesis left, hypothesis right; an empty hypothesis is none.
    private static final int GOAL_SLOTS = RULE_SLOTS + 4 * MAX_FUNCS;
    // What a call works on before it is sure of success, so that a refused call changes nothing.
    private static final int LEFT = GOAL_SLOTS + 4 * MAX_GOALS;
    private static final int RIGHT = LEFT + 1;
    private static final int SPARE = LEFT + 2;
    private static final int FROM = LEFT + 3;
    private static final int TO = LEFT + 4;
    private static final int SLOTS = LEFT + 5;
    // One cell more than the longest text: a text that fills its slot is too long.
    private static final int SLOT_SIZE = MAX_TEXT + 1;
    private static final int TEXT_CELLS = SLOTS * SLOT_SIZE;

    private final char[] text = new char[TEXT_CELLS];
    private final int[] length = new int[SLOTS];

    // By symbol; the arity of a byte that is no symbol is NONE.
    private final int[] arityOf = new int[BYTE_VALUES];
    private final int[] argSortsOf = new int[BYTE_VALUES];
    private final int[] sortOf = new int[BYTE_VALUES];

    // By position in the text last given to markSubterms.
    private final int[] subtermEnd = new int[SLOT_SIZE];
    // By variable of the pattern last matched: where its subterm begins, or NONE.
    private final int[] boundAt = new int[VARIABLES];

    private final boolean[] proved = new boolean[MAX_FORMULAS];
    // By variable: its number, or the length of its list.
    private final int[] value = new int[VARIABLES];
    // By list variable: its elements, four bits each, the first one lowest.
    private final int[] elements = new int[VARIABLES];

    private int functions = 0;
    private int formulas = 0;
    private int active = NONE;
    private int goals = 0;

    public InductionProver() {
        for (int c = 0; c < BYTE_VALUES; c++) {
            arityOf[c] = NONE;
        }
        setSymbol('Z', 0, 0, SORT_NAT);
        setSymbol('S', 1, 0, SORT_NAT);
        setSymbol('N', 0, 0, SORT_LIST);
        setSymbol('C', 2, 2, SORT_LIST);
        for (int v = 0; v < VARIABLES; v++) {
            char letter = variableLetter(v);
            setSymbol(letter, 0, 0, v < FIRST_LIST_VARIABLE ? SORT_NAT : SORT_LIST);
        }
    }

    public int declare(int arity, int argSorts, int resultSort) {
        if (functions >= MAX_FUNCS) {
            return ERR_FULL;
        }
        if (arity < 1 || arity > MAX_ARITY) {
            return ERR_ARG;
        }
        if (resultSort != SORT_NAT && resultSort != SORT_LIST) {
            return ERR_ARG;
        }
        int usedBits = argSorts & ((1 << arity) - 1);
        setSymbol((char) ('F' + functions), arity, usedBits, resultSort);
        functions++;
        return functions - 1;
    }

    public int feed(int w0, int w1, int w2, int w3) {
        int size = length[BUFFER];
        for (int j = 0; j < FED_BYTES; j++) {
            int word = j < 4 ? w0 : j < 8 ? w1 : j < 12 ? w2 : w3;
            int next = (word >> 8 * (j & 3)) & 255;
            if (next == 0) {
                break;
            }
            if (size >= MAX_TEXT) {
                return ERR_FULL;
            }
            // The buffer takes this in only when its length is set, after every byte has fitted.
            text[BUFFER * SLOT_SIZE + size] = (char) next;
            size++;
        }
        length[BUFFER] = size;
        return size;
    }

    public int defineRule() {
        int equalSign = findEquation();
        int answer = judgeRule(equalSign);
        if (answer == OK) {
            int slot = bufferRuleSlot();
            copySpan(slot, BUFFER, 0, equalSign);
            copySpan(slot + 1, BUFFER, equalSign + 1, length[BUFFER]);
        }
        length[BUFFER] = 0;
        return answer;
    }

    public int conjecture() {
        int equalSign = findEquation();
        int answer = judgeConjecture(equalSign);
        if (answer == OK) {
            answer = enterFormula(equalSign);
        }
        length[BUFFER] = 0;
        return answer;
    }

    public int induct(int var) {
        if (active < 0) {
            return ERR_STATE;
        }
        if (var < 0 || var >= VARIABLES) {
            return ERR_ARG;
        }
        int top = topGoal();
        int inSides = variablesOf(top) | variablesOf(top + 1);
        if ((inSides >> var & 1) == 0) {
            return ERR_ARG;
        }
        if (goals >= MAX_GOALS) {
            return ERR_FULL;
        }
        int head = NONE;
        if (var >= FIRST_LIST_VARIABLE) {
            head = freshVariable(SORT_NAT);
            if (head < 0) {
                return ERR_FULL;
            }
        }
        writeStepTerm(var, head);
        replaceInSides(FROM, TO, false);
        if (length[LEFT] > MAX_TEXT || length[RIGHT] > MAX_TEXT) {
            return ERR_LIMIT;
        }
        pushStepAndBase(var);
        return goals;
    }

    public int simp() {
        if (active < 0) {
            return ERR_STATE;
        }
        int top = topGoal();
        copyText(top, LEFT);
        copyText(top + 1, RIGHT);
        return settleTopGoal();
    }

    public int useHyp(int dir) {
        if (active < 0) {
            return ERR_STATE;
        }
        if (dir != 0 && dir != 1) {
            return ERR_ARG;
        }
        int hypothesis = topGoal() + 2;
        if (length[hypothesis] == 0) {
            return ERR_STATE;
        }
        int hits = replaceInSides(hypothesis + dir, hypothesis + 1 - dir, false);
        if (hits == 0) {
            return ERR_NOMATCH;
        }
        return settleTopGoal();
    }

    public int useLemma(int k, int dir) {
        if (active < 0) {
            return ERR_STATE;
        }
        if (k < 0 || k >= MAX_FORMULAS || !proved[k]) {
            return ERR_ARG;
        }
        if (dir != 0 && dir != 1) {
            return ERR_ARG;
        }
        int lemma = FORMULA_SLOTS + 2 * k;
        int from = lemma + dir;
        int to = lemma + 1 - dir;
        int unknown = variablesOf(to) & ~variablesOf(from);
        if (isSingleVariable(from) || unknown != 0) {
            return ERR_FORM;
        }
        int hits = replaceInSides(from, to, true);
        if (hits == 0) {
            return ERR_NOMATCH;
        }
        return settleTopGoal();
    }

    public int generalize() {
        // The term moves on at once, since the buffer must be empty whatever the answer is.
        copyText(BUFFER, FROM);
        length[BUFFER] = 0;
        if (active < 0) {
            return ERR_STATE;
        }
        int itsSort = termSort(FROM, 0, length[FROM]);
        if (itsSort < 0) {
            return ERR_SYNTAX;
        }
        if (isSingleVariable(FROM)) {
            return ERR_FORM;
        }
        int fresh = freshVariable(itsSort);
        length[TO] = 0;
        if (fresh >= 0) {
            char letter = variableLetter(fresh);
            append(TO, letter);
        }
        int hits = replaceInSides(FROM, TO, false);
        if (hits == 0) {
            return ERR_NOMATCH;
        }
        if (fresh < 0) {
            return ERR_FULL;
        }
        int top = topGoal();
        copyText(LEFT, top);
        copyText(RIGHT, top + 1);
        return goals;
    }

    public boolean setVar(int var, int a, int b) {
        if (var < 0 || var >= VARIABLES || a < 0) {
            return false;
        }
        if (var < FIRST_LIST_VARIABLE) {
            if (a > MAX_NUMBER) {
                return false;
            }
            value[var] = a;
            return true;
        }
        if (a > MAX_LIST) {
            return false;
        }
        for (int i = 0; i < a; i++) {
            if ((b >> 4 * i & 15) > MAX_ELEMENT) {
                return false;
            }
        }
        value[var] = a;
        elements[var] = b;
        return true;
    }

    public int getVar(int var, int i) {
        if (var < 0 || var >= VARIABLES) {
            return -1;
        }
        if (var < FIRST_LIST_VARIABLE || i == -1) {
            return value[var];
        }
        if (i < 0 || i >= value[var]) {
            return -1;
        }
        return elements[var] >> 4 * i & 15;
    }

    public int evaluate(int k) {
        if (k < 0 || k >= formulas) {
            return ERR_ARG;
        }
        int formula = FORMULA_SLOTS + 2 * k;
        writeGround(formula, LEFT);
        writeGround(formula + 1, RIGHT);
        if (!normalize(LEFT) || !normalize(RIGHT)) {
            return UNKNOWN;
        }
        return sameText(LEFT, RIGHT) ? EQUAL : DIFFERENT;
    }

    public int status(int k) {
        if (k < 0 || k >= formulas) {
            return ST_NONE;
        }
        if (proved[k]) {
            return ST_PROVED;
        }
        return k == active ? ST_ACTIVE : ST_OPEN;
    }

    public int goalCount() {
        return goals;
    }

    public char textChar(int which, int side, int i) {
        if (which >= 0) {
            if (which >= formulas || side < 0 || side > 1) {
                return 0;
            }
            return symbolAt(FORMULA_SLOTS + 2 * which + side, i);
        }
        int depth = -1 - which;
        if (depth >= goals || side < 0 || side > 3) {
            return 0;
        }
        return symbolAt(GOAL_SLOTS + 4 * (goals - 1 - depth) + side, i);
    }

    public int funcInfo(int f) {
        if (f < 0 || f >= functions) {
            return -1;
        }
        int letter = 'F' + f;
        return ruleCount(letter) + 4 * arityOf[letter] + 16 * argSortsOf[letter] + 128 * sortOf[letter];
    }

    private void setSymbol(char symbol, int itsArity, int itsArgSorts, int itsSort) {
        arityOf[symbol] = itsArity;
        argSortsOf[symbol] = itsArgSorts;
        sortOf[symbol] = itsSort;
    }

    private static char variableLetter(int variable) {
        if (variable < FIRST_LIST_VARIABLE) {
            return (char) ('a' + variable);
        }
        return (char) ('p' + variable - FIRST_LIST_VARIABLE);
    }

    private static int variableNumber(int symbol) {
        if (symbol >= 'a' && symbol <= 'h') {
            return symbol - 'a';
        }
        if (symbol >= 'p' && symbol <= 'w') {
            return symbol - 'p' + FIRST_LIST_VARIABLE;
        }
        return NONE;
    }

    private static boolean isFunction(int symbol) {
        return symbol >= 'F' && symbol <= 'M';
    }

    /** Answers 0 for Z and N, 1 for S and C, and NONE for what is no constructor. */
    private static int constructorKind(int symbol) {
        if (symbol == 'Z' || symbol == 'N') {
            return 0;
        }
        return symbol == 'S' || symbol == 'C' ? 1 : NONE;
    }

    /** Answers 0 where the text has no symbol i. */
    private char symbolAt(int slot, int i) {
        return i < 0 || i >= length[slot] ? 0 : text[slot * SLOT_SIZE + i];
    }

    /** Drops what no longer fits: the full slot already tells that the text is too long. */
    private void append(int slot, char symbol) {
        int size = length[slot];
        if (size < SLOT_SIZE) {
            text[slot * SLOT_SIZE + size] = symbol;
            length[slot] = size + 1;
        }
    }

    /** Appends symbols start to stop - 1 of the source to the target. */
    private void copySpan(int target, int source, int start, int stop) {
        int size = length[target];
        for (int i = start; i < stop && size < SLOT_SIZE; i++) {
            text[target * SLOT_SIZE + size] = text[source * SLOT_SIZE + i];
            size++;
        }
        length[target] = size;
    }

    private void copyText(int source, int target) {
        length[target] = 0;
        copySpan(target, source, 0, length[source]);
    }

    private boolean sameText(int one, int other) {
        if (length[one] != length[other]) {
            return false;
        }
        for (int i = 0; i < length[one]; i++) {
            if (text[one * SLOT_SIZE + i] != text[other * SLOT_SIZE + i]) {
                return false;
            }
        }
        return true;
    }

    private boolean isSingleVariable(int slot) {
        char first = symbolAt(slot, 0);
        return length[slot] == 1 && variableNumber(first) >= 0;
    }

    /** Answers a set of variables, bit v for variable v. */
    private int variablesOf(int slot) {
        return variablesIn(slot, 0, length[slot]);
    }

    private int variablesIn(int slot, int start, int stop) {
        int set = 0;
        for (int i = start; i < stop; i++) {
            char symbol = symbolAt(slot, i);
            int variable = variableNumber(symbol);
            if (variable >= 0) {
                set |= 1 << variable;
            }
        }
        return set;
    }

    /** Answers where the buffer has its '=', or NONE if it is not a WELL-FORMED EQUATION. */
    private int findEquation() {
        int equalSign = 0;
        while (equalSign < length[BUFFER] && text[BUFFER * SLOT_SIZE + equalSign] != '=') {
            equalSign++;
        }
        // A second '=', being no symbol, spoils the right side; a missing one leaves it empty.
        int leftSort = termSort(BUFFER, 0, equalSign);
        int rightSort = termSort(BUFFER, equalSign + 1, length[BUFFER]);
        return leftSort >= 0 && leftSort == rightSort ? equalSign : NONE;
    }

    /** Answers the sort of the one term that bytes start to stop - 1 of the text are, or NONE. */
    private int termSort(int slot, int start, int stop) {
        // Read from the end, arguments come before their symbol; bit 0 is the sort of the term
        // begun last, so the lowest bits lie just as argSortsOf has them. 48 terms fit a long.
        long waitingSorts = 0;
        int waiting = 0;
        for (int i = stop - 1; i >= start; i--) {
            char symbol = symbolAt(slot, i);
            int wanted = symbol < BYTE_VALUES ? arityOf[symbol] : NONE;
            if (wanted < 0 || wanted > waiting) {
                return NONE;
            }
            long argumentSorts = waitingSorts & ((1L << wanted) - 1);
            if (argumentSorts != argSortsOf[symbol]) {
                return NONE;
            }
            waitingSorts = (waitingSorts >> wanted) << 1 | sortOf[symbol];
            waiting += 1 - wanted;
        }
        return waiting == 1 ? (int) waitingSorts : NONE;
    }

    private int judgeRule(int equalSign) {
        if (equalSign < 0) {
            return ERR_SYNTAX;
        }
        if (!isRuleLeft(equalSign) || !isRuleRight(equalSign)) {
            return ERR_FORM;
        }
        int slot = bufferRuleSlot();
        return length[slot] > 0 ? ERR_DUP : OK;
    }

    /** The equation being well-formed, what stands behind f and the constructor need only be distinct variables. */
    private boolean isRuleLeft(int equalSign) {
        char function = symbolAt(BUFFER, 0);
        char constructor = symbolAt(BUFFER, 1);
        if (!isFunction(function) || constructorKind(constructor) < 0) {
            return false;
        }
        int seen = 0;
        for (int i = 2; i < equalSign; i++) {
            char symbol = symbolAt(BUFFER, i);
            int variable = variableNumber(symbol);
            if (variable < 0 || (seen >> variable & 1) == 1) {
                return false;
            }
            seen |= 1 << variable;
        }
        return true;
    }

    private boolean isRuleRight(int equalSign) {
        int known = variablesIn(BUFFER, 0, equalSign);
        int used = variablesIn(BUFFER, equalSign + 1, length[BUFFER]);
        if ((used & ~known) != 0) {
            return false;
        }
        char function = symbolAt(BUFFER, 0);
        char smaller = recursionVariable();
        for (int i = equalSign + 1; i < length[BUFFER]; i++) {
            char symbol = symbolAt(BUFFER, i);
            char next = symbolAt(BUFFER, i + 1);
            boolean recursive = symbol == function && smaller != 0 && next == smaller;
            boolean earlier = symbol < function && ruleCount(symbol) == 2;
            if (isFunction(symbol) && !recursive && !earlier) {
                return false;
            }
        }
        return true;
    }

    /** Answers the variable that a recursive call must begin with, or 0 where none is allowed. */
    private char recursionVariable() {
        char constructor = symbolAt(BUFFER, 1);
        if (constructor == 'S') {
            return symbolAt(BUFFER, 2);
        }
        return constructor == 'C' ? symbolAt(BUFFER, 3) : 0;
    }

    private int bufferRuleSlot() {
        char function = symbolAt(BUFFER, 0);
        char constructor = symbolAt(BUFFER, 1);
        return ruleSlot(function, constructor);
    }

    /** Answers the slot of a rule's left side; its right side lies in the next one. */
    private static int ruleSlot(int function, int constructor) {
        int kind = constructorKind(constructor);
        return RULE_SLOTS + 4 * (function - 'F') + 2 * kind;
    }

    /** Answers how many rules the symbol has; only a function has any. */
    private int ruleCount(int symbol) {
        if (!isFunction(symbol)) {
            return 0;
        }
        int first = RULE_SLOTS + 4 * (symbol - 'F');
        return (length[first] > 0 ? 1 : 0) + (length[first + 2] > 0 ? 1 : 0);
    }

    private int judgeConjecture(int equalSign) {
        if (equalSign < 0) {
            return ERR_SYNTAX;
        }
        for (int i = 0; i < length[BUFFER]; i++) {
            char symbol = symbolAt(BUFFER, i);
            if (isFunction(symbol) && ruleCount(symbol) < 2) {
                return ERR_FORM;
            }
        }
        return formulas >= MAX_FORMULAS ? ERR_FULL : OK;
    }

    private int enterFormula(int equalSign) {
        int slot = FORMULA_SLOTS + 2 * formulas;
        copySpan(slot, BUFFER, 0, equalSign);
        copySpan(slot + 1, BUFFER, equalSign + 1, length[BUFFER]);
        copyText(slot, GOAL_SLOTS);
        copyText(slot + 1, GOAL_SLOTS + 1);
        length[GOAL_SLOTS + 2] = 0;
        length[GOAL_SLOTS + 3] = 0;
        goals = 1;
        active = formulas;
        formulas++;
        return active;
    }

    /** Answers the first slot of the top goal; there is one whenever a formula is active. */
    private int topGoal() {
        return GOAL_SLOTS + 4 * (goals > 0 ? goals - 1 : 0);
    }

    /** Answers the FRESH variable of the sort for the top goal, or NONE. */
    private int freshVariable(int wantedSort) {
        int top = topGoal();
        int used = variablesOf(top) | variablesOf(top + 1) | variablesOf(top + 2) | variablesOf(top + 3);
        int first = wantedSort == SORT_NAT ? 0 : FIRST_LIST_VARIABLE;
        for (int v = first; v < first + VARIABLES_OF_A_SORT; v++) {
            if ((used >> v & 1) == 0) {
                return v;
            }
        }
        return NONE;
    }

    /** Leaves the variable in FROM and what the step case has in its place in TO. */
    private void writeStepTerm(int var, int head) {
        char letter = variableLetter(var);
        length[FROM] = 0;
        append(FROM, letter);
        length[TO] = 0;
        if (var < FIRST_LIST_VARIABLE) {
            append(TO, 'S');
        } else {
            char headLetter = variableLetter(head);
            append(TO, 'C');
            append(TO, headLetter);
        }
        append(TO, letter);
    }

    /** Puts the step goal, whose sides stand in LEFT and RIGHT, in the place of the top goal, and the base goal on it. */
    private void pushStepAndBase(int var) {
        int step = topGoal();
        int base = step + 4;
        length[TO] = 0;
        append(TO, var < FIRST_LIST_VARIABLE ? 'Z' : 'N');
        replaceAll(step, base, FROM, TO, false);
        replaceAll(step + 1, base + 1, FROM, TO, false);
        length[base + 2] = 0;
        length[base + 3] = 0;
        copyText(step, step + 2);
        copyText(step + 1, step + 3);
        copyText(LEFT, step);
        copyText(RIGHT, step + 1);
        goals++;
    }

    /** Does REPLACE on the top goal's sides into LEFT and RIGHT and answers the number of OCCURRENCES. */
    private int replaceInSides(int from, int to, boolean pattern) {
        int top = topGoal();
        int leftHits = replaceAll(top, LEFT, from, to, pattern);
        int rightHits = replaceAll(top + 1, RIGHT, from, to, pattern);
        return leftHits + rightHits;
    }

    private int replaceAll(int source, int target, int from, int to, boolean pattern) {
        markSubterms(source);
        length[target] = 0;
        int hits = 0;
        int next = 0;
        for (int i = 0; i < length[source]; i++) {
            if (i < next) {
                continue;
            }
            if (matchesAt(from, source, i, pattern)) {
                hits++;
                copyInstance(target, to, source);
                next = subtermEnd[i];
            } else {
                copySpan(target, source, i, i + 1);
            }
        }
        return hits;
    }

    /** Notes for every position of the text where the subterm that begins there ends. */
    private void markSubterms(int slot) {
        for (int i = length[slot] - 1; i >= 0; i--) {
            char symbol = text[slot * SLOT_SIZE + i];
            int arguments = symbol < BYTE_VALUES ? arityOf[symbol] : 0;
            int end = i + 1;
            for (int j = 0; j < arguments && end < length[slot]; j++) {
                end = subtermEnd[end];
            }
            subtermEnd[i] = end;
        }
    }

    /** Matches the source, whose subterms are marked, and leaves in boundAt what a pattern's variables stand for. */
    private boolean matchesAt(int from, int source, int at, boolean pattern) {
        for (int v = 0; v < VARIABLES; v++) {
            boundAt[v] = NONE;
        }
        int position = at;
        for (int j = 0; j < length[from]; j++) {
            if (position >= length[source]) {
                return false;
            }
            char symbol = symbolAt(from, j);
            int variable = pattern ? variableNumber(symbol) : NONE;
            if (variable >= 0) {
                if (boundAt[variable] < 0) {
                    boundAt[variable] = position;
                } else if (!sameSubterm(source, boundAt[variable], position)) {
                    return false;
                }
                position = subtermEnd[position];
            } else {
                if (text[source * SLOT_SIZE + position] != symbol) {
                    return false;
                }
                position++;
            }
        }
        return true;
    }

    private boolean sameSubterm(int slot, int one, int other) {
        int size = subtermEnd[one] - one;
        if (subtermEnd[other] - other != size) {
            return false;
        }
        for (int i = 0; i < size; i++) {
            if (text[slot * SLOT_SIZE + one + i] != text[slot * SLOT_SIZE + other + i]) {
                return false;
            }
        }
        return true;
    }

    /** Appends the text to the target, each variable that matchesAt bound replaced by its subterm of the source. */
    private void copyInstance(int target, int to, int source) {
        for (int j = 0; j < length[to]; j++) {
            char symbol = symbolAt(to, j);
            int variable = variableNumber(symbol);
            int start = variable < 0 ? NONE : boundAt[variable];
            if (start < 0) {
                append(target, symbol);
            } else {
                copySpan(target, source, start, subtermEnd[start]);
            }
        }
    }

    /** Does NORMALIZE in place and answers whether it worked; on a text that is too long it fails at once. */
    private boolean normalize(int slot) {
        for (int step = 0; step <= STEP_LIMIT; step++) {
            if (length[slot] > MAX_TEXT) {
                return false;
            }
            int at = lastRedex(slot);
            if (at < 0) {
                return true;
            }
            char function = symbolAt(slot, at);
            char constructor = symbolAt(slot, at + 1);
            int rule = ruleSlot(function, constructor);
            markSubterms(slot);
            // A rule's left side fits every redex of its function and constructor; this binds its variables.
            matchesAt(rule, slot, at, true);
            length[SPARE] = 0;
            copySpan(SPARE, slot, 0, at);
            copyInstance(SPARE, rule + 1, slot);
            copySpan(SPARE, slot, subtermEnd[at], length[slot]);
            copyText(SPARE, slot);
        }
        return false;
    }

    private int lastRedex(int slot) {
        for (int i = length[slot] - 2; i >= 0; i--) {
            char symbol = symbolAt(slot, i);
            char next = symbolAt(slot, i + 1);
            if (isFunction(symbol) && constructorKind(next) >= 0) {
                return i;
            }
        }
        return NONE;
    }

    /** Normalizes LEFT and RIGHT, makes them the top goal's sides and does the CLOSE-CHECK. */
    private int settleTopGoal() {
        if (!normalize(LEFT) || !normalize(RIGHT)) {
            return ERR_LIMIT;
        }
        int top = topGoal();
        copyText(LEFT, top);
        copyText(RIGHT, top + 1);
        if (sameText(LEFT, RIGHT)) {
            closeTopGoal();
        }
        return goals;
    }

    private void closeTopGoal() {
        goals--;
        if (goals == 0) {
            proved[active] = true;
            active = NONE;
        }
    }

    /** Writes the text with every variable replaced by its value's text. */
    private void writeGround(int source, int target) {
        length[target] = 0;
        for (int i = 0; i < length[source]; i++) {
            char symbol = symbolAt(source, i);
            int variable = variableNumber(symbol);
            if (variable < 0) {
                append(target, symbol);
            } else if (variable < FIRST_LIST_VARIABLE) {
                appendNumber(target, value[variable]);
            } else {
                appendList(target, variable);
            }
        }
    }

    private void appendNumber(int target, int number) {
        for (int n = 0; n < number; n++) {
            append(target, 'S');
        }
        append(target, 'Z');
    }

    private void appendList(int target, int variable) {
        for (int i = 0; i < value[variable]; i++) {
            append(target, 'C');
            appendNumber(target, elements[variable] >> 4 * i & 15);
        }
        append(target, 'N');
    }
}
