/** Tells of a small text program what is assigned for sure at each of its places, and what for sure is not. */
public final class AssignFlow {
    public static final int NONE = -1, BAD = -2, FULL = -3, SHAPE = -4;

    private static final int MAX_SIGNS = 240;
    // Each PLACE has a sign of its own that no other one has (its operator, its letter, its ; or {), so a whole unit
    // never has more PLACES than signs. But the stmt of an e has its row before its ; is read: one that breaks off
    // there has one PLACE more.
    private static final int MAX_PLACES = MAX_SIGNS + 1;
    private static final int MAX_BYTES = 8;
    private static final int MAX_VARIABLES = 12;
    private static final int MAX_STATEMENTS_AROUND = 20;
    private static final int MAX_EXPRESSIONS_AROUND = 30;

    private static final int BEFORE = 0, AFTER = 1, WHEN_TRUE = 2, WHEN_FALSE = 3;
    private static final int USED_TOO_EARLY = 1, ASSIGNED_TWICE = 2, NEVER_REACHED = 3;
    private static final int PART_TRY = 0, PART_CATCH = 1, PART_FINALLY = 2;

    private final int[] collected;
    private int collectedSize;
    private int faultAt;
    private final Variables variables;
    private final Places places;
    private final Reader reader;
    private final Ways ways;
    private final Walks walks;
    private final Judge judge;

    public AssignFlow() {
        collected = new int[MAX_SIGNS];
        collectedSize = 0;
        faultAt = NONE;
        variables = new Variables();
        places = new Places();
        reader = new Reader(collected, places, variables);
        ways = new Ways(places);
        walks = new Walks(places, ways);
        judge = new Judge(places, variables, walks);
        walks.walkUnit();
    }

    public int collect(long w, int n) {
        if (n < 1 || n > MAX_BYTES) {
            return BAD;
        }
        if (collectedSize > MAX_SIGNS - n) {
            return FULL;
        }
        for (int i = 0; i < n; i++) {
            collected[collectedSize + i] = (int) (w >>> (8 * i) & 255L);
        }
        collectedSize += n;
        return collectedSize;
    }

    public int forget() {
        int had = collectedSize;
        collectedSize = 0;
        return had;
    }

    public int read() {
        boolean good = reader.readUnit(collectedSize);
        collectedSize = 0;
        faultAt = good ? NONE : reader.faultAt;
        if (!good) {
            places.clear();
            variables.clear();
        }
        places.link();
        ways.link();
        walks.walkUnit();
        judge.judgeAll();
        return good ? places.size : SHAPE;
    }

    public int fault() {
        return faultAt;
    }

    public int place(int p, int what) {
        if (!places.has(p)) {
            return BAD;
        }
        switch (what) {
            case 0: return places.sort[p];
            case 1: return places.first[p];
            case 2: return places.around[p];
            case 3: return places.named[p];
            default: return BAD;
        }
    }

    public int fact(int p, int when, int what) {
        if (!places.has(p) || when < BEFORE || when > WHEN_FALSE) {
            return BAD;
        }
        if (when >= WHEN_TRUE && isStatement(places.sort[p])) {
            return BAD;
        }
        long state = walks.stateAt(p, when);
        int there = when == BEFORE ? places.there[p] : places.thereAfter(p);
        switch (what) {
            case 0: return State.isReached(state) ? 1 : 0;
            case 1: return there & ~State.unassignedOnSome(state);
            case 2: return there & ~State.assignedOnSome(state);
            default: return BAD;
        }
    }

    public int error(int i, int what) {
        if (what != 0 && what != 1) {
            return BAD;
        }
        if (i < 0 || i >= judge.size) {
            return NONE;
        }
        int p = judge.wrong[i];
        return what == 0 ? p : judge.kindAt(p);
    }

    public int variable(int v, int what) {
        if (!variables.has(v)) {
            return BAD;
        }
        switch (what) {
            case 0: return variables.name[v];
            case 1: return variables.isFinal[v] ? 1 : 0;
            case 2: return variables.giver[v];
            case 3: return variables.couldBeFinal[v] ? 1 : 0;
            case 4: return variables.uses[v];
            case 5: return variables.assigns[v];
            default: return BAD;
        }
    }

    public int count(int what) {
        switch (what) {
            case 0: return places.size;
            case 1: return variables.size;
            case 2: return judge.size;
            case 3: return collectedSize;
            case 4: return State.isReached(walks.atEnd) ? 1 : 0;
            case 5: return places.thereAtEnd & ~State.unassignedOnSome(walks.atEnd);
            default: return BAD;
        }
    }

    private static boolean isName(int sign) {
        return sign >= 'a' && sign <= 'z';
    }

    private static boolean isLabel(int sign) {
        return sign >= '2' && sign <= '9';
    }

    private static boolean isLoop(int sort) {
        return sort == 'W' || sort == 'D' || sort == 'F';
    }

    private static boolean isStatement(int sort) {
        switch (sort) {
            case '$': case '%': case '{': case ':': case ';':
            case 'I': case 'W': case 'D': case 'F': case 'S': case 'T':
            case 'B': case 'C': case 'R': case 'X':
                return true;
            default:
                return false;
        }
    }

    /** The VARIABLES of the unit, in the order in which they are given. */
    private static final class Variables {
        private final int[] name = new int[MAX_VARIABLES];
        private final boolean[] isFinal = new boolean[MAX_VARIABLES];
        private final int[] giver = new int[MAX_VARIABLES];
        private final boolean[] couldBeFinal = new boolean[MAX_VARIABLES];
        private final int[] uses = new int[MAX_VARIABLES];
        private final int[] assigns = new int[MAX_VARIABLES];
        private int size = 0;

        private boolean has(int v) {
            return v >= 0 && v < size;
        }

        private boolean isFull() {
            return size >= MAX_VARIABLES;
        }

        private void clear() {
            size = 0;
        }

        private int give(int newName, boolean newFinal, int newGiver) {
            if (isFull()) {
                return NONE;
            }
            int v = size;
            name[v] = newName;
            isFinal[v] = newFinal;
            giver[v] = newGiver;
            couldBeFinal[v] = true;
            uses[v] = 0;
            assigns[v] = 0;
            size++;
            return v;
        }

        private int find(int wanted, int there) {
            for (int v = 0; v < size; v++) {
                if ((there >> v & 1) == 1 && name[v] == wanted) {
                    return v;
                }
            }
            return NONE;
        }
    }

    /**
     * The PLACES of the unit in their order, which is that of a tree whose outer nodes come first: what is within
     * PLACE p are the PLACES from p + 1 to end[p] - 1.
     */
    private static final class Places {
        private final int[] sort = new int[MAX_PLACES];
        private final int[] first = new int[MAX_PLACES];
        private final int[] named = new int[MAX_PLACES];
        private final int[] there = new int[MAX_PLACES];
        private final int[] end = new int[MAX_PLACES];
        private final int[] around = new int[MAX_PLACES];
        // Within T: in which of its { } this PLACE is; within others: how many PLACES come ahead of it there.
        private final int[] part = new int[MAX_PLACES];
        // The nearest T around, and in which of its { }.
        private final int[] tryAround = new int[MAX_PLACES];
        private final int[] tryPart = new int[MAX_PLACES];
        // Of B: the statement behind which it goes. Of C: the loop to whose next round it goes.
        private final int[] target = new int[MAX_PLACES];
        // Of T: where the PLACES of K and of N begin; NONE without K, without N.
        private final int[] catchFrom = new int[MAX_PLACES];
        private final int[] finallyFrom = new int[MAX_PLACES];
        // Of an item of S: whether L : or O : is right ahead of it.
        private final boolean[] isEntered = new boolean[MAX_PLACES];
        // Of S: whether some WALK goes from its e right behind all items.
        private final boolean[] isSkipped = new boolean[MAX_PLACES];
        private int size = 0;
        private int thereAtEnd = 0;

        private boolean has(int p) {
            return p >= 0 && p < size;
        }

        private void clear() {
            size = 0;
            thereAtEnd = 0;
        }

        private boolean append(int newSort, int newFirst, int newNamed, int newThere) {
            if (size >= MAX_PLACES) {
                return false;
            }
            int p = size;
            sort[p] = newSort;
            first[p] = newFirst;
            named[p] = newNamed;
            there[p] = newThere;
            end[p] = p + 1;
            target[p] = NONE;
            catchFrom[p] = NONE;
            finallyFrom[p] = NONE;
            isEntered[p] = false;
            isSkipped[p] = false;
            size++;
            return true;
        }

        /**
         * An operator shows itself only behind its left side, and yet is numbered ahead of it. What is moved are
         * parts of one e, so the rows that are the same for all of these stay.
         */
        private boolean wrapFrom(int p, int newSort) {
            if (!has(p) || !append(newSort, first[p], NONE, there[p])) {
                return false;
            }
            int moved = size - 1 - p;
            System.arraycopy(sort, p, sort, p + 1, moved);
            System.arraycopy(first, p, first, p + 1, moved);
            System.arraycopy(named, p, named, p + 1, moved);
            System.arraycopy(end, p, end, p + 1, moved);
            for (int q = p + 1; q < size; q++) {
                end[q]++;
            }
            sort[p] = newSort;
            named[p] = NONE;
            return true;
        }

        private void close(int p) {
            if (has(p)) {
                end[p] = size;
            }
        }

        /** Tells each PLACE what is around it; this waits until no PLACE is moved any more. */
        private void link() {
            for (int p = 0; p < size; p++) {
                int sibling = NONE;
                int outer = p - 1;
                for (int k = 0; k < MAX_PLACES && has(outer) && end[outer] <= p; k++) {
                    sibling = outer;
                    outer = around[outer];
                }
                around[p] = outer;
                part[p] = has(sibling) ? part[sibling] + 1 : 0;
                tryAround[p] = has(outer) ? tryAround[outer] : NONE;
                tryPart[p] = has(outer) ? tryPart[outer] : NONE;
                if (has(outer) && sort[outer] == 'T') {
                    linkToTry(p, outer);
                }
            }
        }

        private void linkToTry(int p, int t) {
            part[p] = PART_TRY;
            if (hasFinally(t) && p >= finallyFrom[t]) {
                part[p] = PART_FINALLY;
            } else if (hasCatch(t) && p >= catchFrom[t]) {
                part[p] = PART_CATCH;
            }
            tryAround[p] = t;
            tryPart[p] = part[p];
        }

        private boolean hasCatch(int t) {
            return has(t) && catchFrom[t] != NONE;
        }

        private boolean hasFinally(int t) {
            return has(t) && finallyFrom[t] != NONE;
        }

        /** The first PLACE in a { } of T, NONE if that one is empty. */
        private int firstIn(int t, int wantedPart) {
            if (!has(t)) {
                return NONE;
            }
            int p = t + 1;
            if (wantedPart == PART_CATCH) {
                p = catchFrom[t];
            } else if (wantedPart == PART_FINALLY) {
                p = finallyFrom[t];
            }
            return has(p) && p < end[t] && part[p] == wantedPart ? p : NONE;
        }

        /** PLACE number k right within p, NONE if there are not so many. */
        private int child(int p, int k) {
            if (!has(p)) {
                return NONE;
            }
            int c = p + 1;
            for (int i = 0; i < k && has(c) && c < end[p]; i++) {
                c = end[c];
            }
            return has(c) && c < end[p] ? c : NONE;
        }

        /** The PLACE right behind p within the same one, NONE if p is the last. */
        private int next(int p) {
            int q = has(p) ? end[p] : NONE;
            return has(q) && around[q] == around[p] ? q : NONE;
        }

        private int thereAfter(int p) {
            if (!has(p)) {
                return 0;
            }
            boolean gives = sort[p] == '$' || sort[p] == '%';
            return gives ? there[p] | 1 << named[p] : there[p];
        }
    }

    /** Reads COLLECTED sign by sign; each method answers whether the unit can still go on. */
    private static final class Reader {
        private static final int END = -1;

        private final int[] text;
        private final Places places;
        private final Variables variables;
        // The statements around the one that is read, the outermost first.
        private final int[] placeAround = new int[MAX_STATEMENTS_AROUND];
        private final int[] sortAround = new int[MAX_STATEMENTS_AROUND];
        private final int[] labelAround = new int[MAX_STATEMENTS_AROUND];
        private int length = 0;
        private int at = 0;
        private int faultAt = NONE;
        private int there = 0;

        private Reader(int[] text, Places places, Variables variables) {
            this.text = text;
            this.places = places;
            this.variables = variables;
        }

        private boolean readUnit(int signs) {
            length = Math.min(signs, text.length);
            at = 0;
            faultAt = NONE;
            there = 0;
            places.clear();
            variables.clear();
            for (int k = 0; k < MAX_SIGNS && sign() != END; k++) {
                if (!statement(0)) {
                    return false;
                }
            }
            places.thereAtEnd = there;
            return true;
        }

        /** The sign that comes next; from then on, at is its place. */
        private int sign() {
            while (at < length && (text[at] == ' ' || text[at] == '\n')) {
                at++;
            }
            return at < length ? text[at] : END;
        }

        private int signBehindNext() {
            int back = at;
            at++;
            int behind = sign();
            at = back;
            return behind;
        }

        private boolean fail() {
            faultAt = at;
            return false;
        }

        private boolean expect(int wanted) {
            if (sign() != wanted) {
                return fail();
            }
            at++;
            return true;
        }

        private boolean append(int sort, int v) {
            return places.append(sort, at, v, there) || fail();
        }

        private boolean statement(int depth) {
            int c = sign();
            if (depth < 0 || depth >= MAX_STATEMENTS_AROUND || isRefused(c, depth)) {
                return fail();
            }
            int p = places.size;
            int sort = statementSort(c);
            placeAround[depth] = p;
            sortAround[depth] = sort;
            labelAround[depth] = isLabel(c) ? c : NONE;
            if (!append(sort, NONE)) {
                return false;
            }
            if (sort != ';' && sort != '{') {
                at++;
            }
            if (!statementRest(p, sort, depth)) {
                return false;
            }
            places.close(p);
            return true;
        }

        private boolean isRefused(int c, int depth) {
            if (c == '$' || c == '%') {
                return variables.isFull();
            }
            return isLabel(c) && depthOfLabel(c, depth) != NONE;
        }

        private static int statementSort(int c) {
            if (isLabel(c)) {
                return ':';
            }
            return isStatement(c) && c != ':' ? c : ';';
        }

        private boolean statementRest(int p, int sort, int depth) {
            int inner = depth + 1;
            switch (sort) {
                case '$': case '%':
                    return given(p, sort);
                case '{':
                    return block(inner);
                case ':':
                    return expect(':') && body(inner);
                case 'I':
                    return condition() && body(inner) && (sign() != 'E' || expect('E') && body(inner));
                case 'W':
                    return condition() && body(inner);
                case 'D':
                    return body(inner) && condition() && expect(';');
                case 'F':
                    return expect('(') && expression(0) && expect(';') && expression(0) && expect(')') && body(inner);
                case 'S':
                    return condition() && expect('{') && items(p, inner);
                case 'T':
                    return tryParts(p, inner);
                case 'B': case 'C':
                    return jump(p, sort, depth);
                case 'R': case 'X':
                    return (sign() == ';' || expression(0)) && expect(';');
                default:
                    return expression(0) && expect(';');
            }
        }

        private boolean given(int p, int sort) {
            int c = sign();
            if (!isName(c) || variables.find(c, there) != NONE) {
                return fail();
            }
            int v = variables.give(c, sort == '%', p);
            if (v == NONE || !places.has(p)) {
                return fail();
            }
            places.named[p] = v;
            at++;
            if (!expect(';')) {
                return false;
            }
            there |= 1 << v;
            return true;
        }

        private boolean body(int depth) {
            int c = sign();
            return c == '$' || c == '%' ? fail() : statement(depth);
        }

        private boolean condition() {
            return expect('(') && expression(0) && expect(')');
        }

        private boolean block(int depth) {
            int outer = there;
            if (!expect('{')) {
                return false;
            }
            for (int k = 0; k < MAX_SIGNS && sign() != '}'; k++) {
                if (!statement(depth)) {
                    return false;
                }
            }
            there = outer;
            return expect('}');
        }

        private boolean items(int s, int depth) {
            int outer = there;
            boolean hasOther = false;
            boolean isFirst = true;
            boolean isEntered = false;
            for (int k = 0; k < MAX_SIGNS && sign() != '}'; k++) {
                int c = sign();
                int p = places.size;
                if (c == 'L' || c == 'O' && !hasOther) {
                    at++;
                    if (!expect(':')) {
                        return false;
                    }
                    hasOther |= c == 'O';
                    isEntered = true;
                } else if (isFirst) {
                    return fail();
                } else if (!statement(depth)) {
                    return false;
                } else {
                    enter(p, isEntered);
                    isEntered = false;
                }
                isFirst = false;
            }
            there = outer;
            // L : or O : with no item behind it goes behind all too.
            skip(s, isEntered || !hasOther);
            return expect('}');
        }

        private void enter(int p, boolean isEntered) {
            if (places.has(p)) {
                places.isEntered[p] = isEntered;
            }
        }

        private void skip(int p, boolean isSkipped) {
            if (places.has(p)) {
                places.isSkipped[p] = isSkipped;
            }
        }

        private boolean tryParts(int t, int depth) {
            if (!places.has(t) || !block(depth)) {
                return false;
            }
            int c = sign();
            if (c != 'K' && c != 'N') {
                return fail();
            }
            if (c == 'K') {
                at++;
                places.catchFrom[t] = places.size;
                if (!block(depth)) {
                    return false;
                }
            }
            if (sign() != 'N') {
                return true;
            }
            at++;
            places.finallyFrom[t] = places.size;
            return block(depth);
        }

        private boolean jump(int p, int sort, int depth) {
            int c = sign();
            if (!isLabel(c) && c != ';') {
                return fail();
            }
            int to = isLabel(c) ? labelledTarget(c, sort, depth) : nearestTarget(sort, depth);
            if (to == NONE || !places.has(p)) {
                return fail();
            }
            places.target[p] = to;
            if (isLabel(c)) {
                at++;
            }
            return expect(';');
        }

        private int nearestTarget(int jumpSort, int depth) {
            for (int d = Math.min(depth, MAX_STATEMENTS_AROUND) - 1; d >= 0; d--) {
                if (isLoop(sortAround[d]) || jumpSort == 'B' && sortAround[d] == 'S') {
                    return placeAround[d];
                }
            }
            return NONE;
        }

        private int labelledTarget(int label, int jumpSort, int depth) {
            int d = depthOfLabel(label, depth);
            if (d == NONE || jumpSort == 'B') {
                return d == NONE ? NONE : placeAround[d];
            }
            // The body of the LABEL is the next statement inwards, or else the C itself.
            int body = d + 1;
            return body < MAX_STATEMENTS_AROUND && isLoop(sortAround[body]) ? placeAround[body] : NONE;
        }

        private int depthOfLabel(int label, int depth) {
            for (int d = Math.min(depth, MAX_STATEMENTS_AROUND) - 1; d >= 0; d--) {
                if (labelAround[d] == label) {
                    return d;
                }
            }
            return NONE;
        }

        private boolean expression(int level) {
            int c = sign();
            if (level >= MAX_EXPRESSIONS_AROUND) {
                return fail();
            }
            if (!isName(c) || signBehindNext() != '=') {
                return conditional(level);
            }
            int v = variables.find(c, there);
            if (v == NONE) {
                return fail();
            }
            int p = places.size;
            if (!append('=', v)) {
                return false;
            }
            variables.assigns[v]++;
            at++;
            if (!expect('=') || !expression(level + 1)) {
                return false;
            }
            places.close(p);
            return true;
        }

        private boolean conditional(int level) {
            int p = places.size;
            sign();
            if (level >= MAX_EXPRESSIONS_AROUND) {
                return fail();
            }
            if (!alternatives(level)) {
                return false;
            }
            if (sign() != '?') {
                return true;
            }
            if (!operator(p, '?') || !expression(level + 1) || !expect(':') || !conditional(level + 1)) {
                return false;
            }
            places.close(p);
            return true;
        }

        private boolean alternatives(int level) {
            int p = places.size;
            boolean good = conjunction(level);
            for (int k = 0; k < MAX_SIGNS && good && sign() == '|'; k++) {
                good = operator(p, '|') && conjunction(level);
                places.close(p);
            }
            return good;
        }

        private boolean conjunction(int level) {
            int p = places.size;
            boolean good = unary(level);
            for (int k = 0; k < MAX_SIGNS && good && sign() == '&'; k++) {
                good = operator(p, '&') && unary(level);
                places.close(p);
            }
            return good;
        }

        private boolean operator(int p, int sort) {
            if (!places.wrapFrom(p, sort)) {
                return fail();
            }
            at++;
            return true;
        }

        private boolean unary(int level) {
            int c = sign();
            if (level >= MAX_EXPRESSIONS_AROUND) {
                return fail();
            }
            if (c == '(') {
                at++;
                return expression(level + 1) && expect(')');
            }
            if (c != '!') {
                return leaf(c);
            }
            int p = places.size;
            if (!append('!', NONE)) {
                return false;
            }
            at++;
            if (!unary(level + 1)) {
                return false;
            }
            places.close(p);
            return true;
        }

        private boolean leaf(int c) {
            int v = isName(c) ? variables.find(c, there) : NONE;
            if (v == NONE && c != '0' && c != '1' && c != '#') {
                return fail();
            }
            if (!append(c, v)) {
                return false;
            }
            if (v != NONE) {
                variables.uses[v]++;
            }
            at++;
            return true;
        }
    }

    /**
     * What all WALKS to one point have done, told for each VARIABLE by itself. A state is a long of four lanes of 16
     * bits: of WALKS that began with the VARIABLE not ASSIGNED, lane 0 tells that on some it is not ASSIGNED now, and
     * lane 1 that on some it is; lanes 2 and 3 tell the same of WALKS that began with it ASSIGNED. So the state at
     * the end of an N also tells what that N makes of any state at its beginning. One bit more than the VARIABLES
     * have is never assigned: it tells that there is some WALK.
     */
    private static final class State {
        private static final int LANE = 16;
        private static final int HALF = 32;
        private static final long HALF_MASK = 0xFFFFFFFFL;
        private static final long UNASSIGNED_LANES = 0x0000FFFF0000FFFFL;
        private static final int VARIABLES_MASK = (1 << MAX_VARIABLES) - 1;
        private static final long ALL = (1L << (MAX_VARIABLES + 1)) - 1;

        private static final long NO_WALK = 0L;
        private static final long UNIT_BEGINS = ALL;
        private static final long BOTH_BEGIN = ALL | ALL << (HALF + LANE);

        private static boolean isReached(long state) {
            return (state >>> MAX_VARIABLES & 1L) == 1L;
        }

        private static int unassignedOnSome(long state) {
            return (int) state & VARIABLES_MASK;
        }

        private static int assignedOnSome(long state) {
            return (int) (state >>> LANE) & VARIABLES_MASK;
        }

        private static long assign(long state, int v) {
            long bits = 1L << v | 1L << (v + HALF);
            return state & ~bits | (state & bits) << LANE;
        }

        private static long unassign(long state, int v) {
            long bits = (1L << v | 1L << (v + HALF)) << LANE;
            return state & ~bits | (state & bits) >>> LANE;
        }

        private static long through(long change, long state) {
            long unassigned = state & UNASSIGNED_LANES;
            long assigned = state >>> LANE & UNASSIGNED_LANES;
            long ofUnassigned = change & HALF_MASK | change << HALF;
            long ofAssigned = change >>> HALF | change & ~HALF_MASK;
            return (unassigned | unassigned << LANE) & ofUnassigned | (assigned | assigned << LANE) & ofAssigned;
        }
    }

    /**
     * To which points the WALKS go from each PLACE. Every PLACE has a point where it begins, ends TRUE (or just ends,
     * if it is a stmt) and ends FALSE, and one in between: of S behind its e, of T with N where its N is due and the
     * WALK goes on behind T then.
     */
    private static final class Ways {
        private static final int NOWHERE = -1;
        private static final int BEGIN = 0;
        private static final int TRUE_END = MAX_PLACES;
        private static final int FALSE_END = 2 * MAX_PLACES;
        private static final int INNER = 3 * MAX_PLACES;
        private static final int BEHIND_ALL = 4 * MAX_PLACES;
        private static final int POINTS = BEHIND_ALL + 1;

        private final Places places;
        private final int[] beginTo = new int[MAX_PLACES];
        private final int[] trueTo = new int[MAX_PLACES];
        private final int[] falseTo = new int[MAX_PLACES];
        private final int[] catchTo = new int[MAX_PLACES];
        private final int[] finallyTo = new int[MAX_PLACES];

        private Ways(Places places) {
            this.places = places;
        }

        private void link() {
            for (int p = 0; p < places.size; p++) {
                linkBegin(p);
                linkTry(p);
                linkEnds(p);
            }
        }

        private void linkBegin(int p) {
            switch (places.sort[p]) {
                case 'B': beginTo[p] = TRUE_END + places.target[p]; break;
                case 'C': beginTo[p] = beginOf(nextRound(places.target[p])); break;
                case 'T': beginTo[p] = partOfTry(p, PART_TRY); break;
                case '{': beginTo[p] = beginOr(places.child(p, 0), TRUE_END + p); break;
                default: beginTo[p] = beginOf(places.child(p, 0));
            }
        }

        private void linkTry(int p) {
            catchTo[p] = places.hasCatch(p) ? partOfTry(p, PART_CATCH) : NOWHERE;
            finallyTo[p] = places.hasFinally(p) ? beginOf(places.firstIn(p, PART_FINALLY)) : NOWHERE;
        }

        private void linkEnds(int p) {
            int outer = places.around[p];
            int next = places.next(p);
            if (!places.has(outer)) {
                sendBoth(p, beginOr(next, BEHIND_ALL));
                return;
            }
            switch (places.sort[outer]) {
                case 'I':
                    linkIf(p, outer);
                    break;
                case 'W': case 'D': case 'F':
                    linkLoop(p, outer);
                    break;
                case 'S':
                    sendBoth(p, places.part[p] == 0 ? INNER + outer : beginOr(next, TRUE_END + outer));
                    break;
                case 'T':
                    linkTryEnd(p, outer, next);
                    break;
                case '{':
                    sendBoth(p, beginOr(next, TRUE_END + outer));
                    break;
                case ';': case ':':
                    sendBoth(p, TRUE_END + outer);
                    break;
                case 'R': case 'X':
                    sendBoth(p, NOWHERE);
                    break;
                default:
                    linkExpression(p, outer, next);
            }
        }

        private void linkExpression(int p, int outer, int next) {
            int isTrue = TRUE_END + outer;
            int isFalse = FALSE_END + outer;
            switch (places.sort[outer]) {
                case '!':
                    send(p, isFalse, isTrue);
                    break;
                case '&':
                    send(p, beginOr(next, isTrue), isFalse);
                    break;
                case '|':
                    send(p, isTrue, beginOr(next, isFalse));
                    break;
                default:
                    if (places.sort[outer] == '?' && places.part[p] == 0) {
                        send(p, beginOf(next), beginOf(places.child(outer, 2)));
                    } else {
                        send(p, isTrue, isFalse);
                    }
            }
        }

        private void linkIf(int p, int outer) {
            if (places.part[p] == 0) {
                send(p, beginOf(places.child(outer, 1)), beginOr(places.child(outer, 2), TRUE_END + outer));
            } else {
                sendBoth(p, TRUE_END + outer);
            }
        }

        private void linkLoop(int p, int loop) {
            int sort = places.sort[loop];
            int test = sort == 'D' ? 1 : 0;
            int body = sort == 'F' ? 2 : 1 - test;
            if (places.part[p] == test) {
                send(p, beginOf(places.child(loop, body)), TRUE_END + loop);
            } else if (places.part[p] == body) {
                sendBoth(p, beginOf(nextRound(loop)));
            } else {
                sendBoth(p, beginOf(places.child(loop, test)));
            }
        }

        private int nextRound(int loop) {
            boolean isWhile = places.has(loop) && places.sort[loop] == 'W';
            return places.child(loop, isWhile ? 0 : 1);
        }

        private void linkTryEnd(int p, int t, int next) {
            if (places.has(next) && places.part[next] == places.part[p]) {
                sendBoth(p, beginOf(next));
            } else {
                sendBoth(p, places.part[p] == PART_FINALLY ? BEHIND_ALL : endOfTry(t));
            }
        }

        private int partOfTry(int t, int part) {
            return beginOr(places.firstIn(t, part), endOfTry(t));
        }

        private int endOfTry(int t) {
            return places.hasFinally(t) ? INNER + t : TRUE_END + t;
        }

        private static int beginOf(int p) {
            return p == NONE ? NOWHERE : BEGIN + p;
        }

        private static int beginOr(int p, int other) {
            return p == NONE ? other : BEGIN + p;
        }

        private void send(int p, int isTrue, int isFalse) {
            trueTo[p] = isTrue;
            falseTo[p] = isFalse;
        }

        private void sendBoth(int p, int point) {
            send(p, point, point);
        }
    }

    /** Finds the states of all WALKS, by sweeps over the PLACES until no state grows any more. */
    private static final class Walks {
        // Each sweep but the last sets one of the 53 bits of some point: there are fewer than this.
        private static final int MAX_SWEEPS = 64 * Ways.POINTS;

        private final Places places;
        private final Ways ways;
        private final long[] points = new long[Ways.POINTS];
        // Of T with N: the state at the end of N, of WALKS that begin at the beginning of N and never leave it.
        private final long[] finallyMakes = new long[MAX_PLACES];
        private long atEnd = State.NO_WALK;
        // The T whose N is walked for itself, NONE if the unit is walked.
        private int root = NONE;
        private boolean hasGrown = false;

        private Walks(Places places, Ways ways) {
            this.places = places;
            this.ways = ways;
        }

        private long stateAt(int p, int when) {
            if (!places.has(p)) {
                return State.NO_WALK;
            }
            switch (when) {
                case BEFORE: return points[Ways.BEGIN + p];
                case AFTER: return points[Ways.TRUE_END + p] | points[Ways.FALSE_END + p];
                case WHEN_TRUE: return points[Ways.TRUE_END + p];
                default: return points[Ways.FALSE_END + p];
            }
        }

        private void walkUnit() {
            // What is within an N has higher numbers than its T: so the inner ones are known when they are asked.
            for (int t = places.size - 1; t >= 0; t--) {
                if (places.hasFinally(t)) {
                    root = t;
                    finallyMakes[t] = walk(places.finallyFrom[t], places.end[t], State.BOTH_BEGIN);
                }
            }
            root = NONE;
            atEnd = walk(0, places.size, State.UNIT_BEGINS);
        }

        private long walk(int from, int to, long state) {
            for (int p = from; p < to && places.has(p); p++) {
                points[Ways.BEGIN + p] = State.NO_WALK;
                points[Ways.TRUE_END + p] = State.NO_WALK;
                points[Ways.FALSE_END + p] = State.NO_WALK;
                points[Ways.INNER + p] = State.NO_WALK;
            }
            points[Ways.BEHIND_ALL] = State.NO_WALK;
            hasGrown = false;
            flow(from < to ? Ways.BEGIN + from : Ways.BEHIND_ALL, state);
            for (int k = 0; k < MAX_SWEEPS && hasGrown; k++) {
                hasGrown = false;
                sweep(from, to);
            }
            return points[Ways.BEHIND_ALL];
        }

        private void sweep(int from, int to) {
            for (int p = from; p < to && places.has(p); p++) {
                begin(p);
                // Ends p, and what is around it if nothing within comes behind p.
                int q = p;
                for (int k = 0; k < MAX_PLACES && q >= from && places.has(q) && places.end[q] == p + 1; k++) {
                    passOn(q);
                    q = places.around[q];
                }
            }
        }

        private void flow(int point, long state) {
            if (point < 0 || point >= points.length) {
                return;
            }
            long joined = points[point] | state;
            if (joined != points[point]) {
                points[point] = joined;
                hasGrown = true;
            }
        }

        private void begin(int p) {
            if (places.isEntered[p] && places.has(places.around[p])) {
                flow(Ways.BEGIN + p, points[Ways.INNER + places.around[p]]);
            }
            long state = points[Ways.BEGIN + p];
            leave(p, state, NONE, true);
            switch (places.sort[p]) {
                case '0':
                    flow(Ways.FALSE_END + p, state);
                    break;
                case '1':
                    flow(Ways.TRUE_END + p, state);
                    break;
                case '$': case '%':
                    flow(Ways.TRUE_END + p, State.unassign(state, places.named[p]));
                    break;
                case 'B': case 'C':
                    flow(ways.beginTo[p], leave(p, state, places.target[p], false));
                    break;
                default:
                    if (places.sort[p] == '#' || isName(places.sort[p])) {
                        flow(Ways.TRUE_END + p, state);
                        flow(Ways.FALSE_END + p, state);
                    } else if (places.sort[p] == 'R' && ways.beginTo[p] == Ways.NOWHERE) {
                        leave(p, state, NONE, false);
                    } else {
                        // An X without e goes nowhere: it has raised already, as all PLACES may before they begin.
                        flow(ways.beginTo[p], state);
                    }
            }
        }

        /** What is left of a state that leaves p for a PLACE further out, or, with NONE, the unit. */
        private long leave(int p, long state, int outer, boolean isRaised) {
            int t = places.tryAround[p];
            int part = places.tryPart[p];
            long left = state;
            for (int k = 0; k < MAX_STATEMENTS_AROUND && places.has(t) && t > outer; k++) {
                if (t == root) {
                    // A way out of the N that is walked for itself is none through it, even if it comes back.
                    return State.NO_WALK;
                }
                if (isRaised && part == PART_TRY && places.catchFrom[t] != NONE) {
                    flow(ways.catchTo[t], left);
                    return State.NO_WALK;
                }
                if (part != PART_FINALLY && places.finallyFrom[t] != NONE) {
                    flow(ways.finallyTo[t], left);
                    left = State.through(finallyMakes[t], left);
                }
                part = places.tryPart[t];
                t = places.tryAround[t];
            }
            return left;
        }

        private void passOn(int p) {
            int outer = places.around[p];
            passInner(p);
            if (ways.trueTo[p] == Ways.BEHIND_ALL && outer != root) {
                // The end of an N that is not walked for itself: finallyMakes takes each WALK on its own way.
                return;
            }
            long isTrue = points[Ways.TRUE_END + p];
            long isFalse = points[Ways.FALSE_END + p];
            switch (places.has(outer) ? places.sort[outer] : NONE) {
                case '=': passAssigned(p, outer); break;
                case 'R': leave(outer, isTrue | isFalse, NONE, false); break;
                case 'X': leave(outer, isTrue | isFalse, NONE, true); break;
                default:
                    flow(ways.trueTo[p], isTrue);
                    flow(ways.falseTo[p], isFalse);
            }
        }

        private void passAssigned(int p, int outer) {
            int v = places.named[outer];
            long isTrue = State.assign(points[Ways.TRUE_END + p], v);
            long isFalse = State.assign(points[Ways.FALSE_END + p], v);
            flow(ways.trueTo[p], isTrue);
            flow(ways.falseTo[p], isFalse);
            leave(outer, isTrue | isFalse, NONE, true);
        }

        private void passInner(int p) {
            long state = points[Ways.INNER + p];
            if (places.hasFinally(p)) {
                flow(ways.finallyTo[p], state);
                flow(Ways.TRUE_END + p, State.through(finallyMakes[p], state));
            } else if (places.isSkipped[p]) {
                flow(Ways.TRUE_END + p, state);
            }
        }
    }

    /** Finds the ERRORS, and which VARIABLES could be FINAL. */
    private static final class Judge {
        private final Places places;
        private final Variables variables;
        private final Walks walks;
        private final int[] wrong = new int[MAX_PLACES];
        private int size = 0;

        private Judge(Places places, Variables variables, Walks walks) {
            this.places = places;
            this.variables = variables;
            this.walks = walks;
        }

        private void judgeAll() {
            size = 0;
            for (int p = 0; p < places.size; p++) {
                if (kindAt(p) != NONE && size < wrong.length) {
                    wrong[size] = p;
                    size++;
                }
                int v = places.named[p];
                if (places.sort[p] == '=' && variables.has(v) && isAssignedTwice(p, v)) {
                    variables.couldBeFinal[v] = false;
                }
            }
        }

        private int kindAt(int p) {
            if (!places.has(p)) {
                return NONE;
            }
            int sort = places.sort[p];
            int v = places.named[p];
            if (isStatement(sort)) {
                return State.isReached(walks.stateAt(p, BEFORE)) ? NONE : NEVER_REACHED;
            }
            if (isName(sort)) {
                return isUsedTooEarly(p, v) ? USED_TOO_EARLY : NONE;
            }
            boolean isWrong = sort == '=' && variables.has(v) && variables.isFinal[v] && isAssignedTwice(p, v);
            return isWrong ? ASSIGNED_TWICE : NONE;
        }

        private boolean isUsedTooEarly(int p, int v) {
            return (State.unassignedOnSome(walks.stateAt(p, BEFORE)) >> v & 1) == 1;
        }

        private boolean isAssignedTwice(int p, int v) {
            long behindValue = walks.stateAt(places.child(p, 0), AFTER);
            return (State.assignedOnSome(behindValue) >> v & 1) == 1;
        }
    }
}
