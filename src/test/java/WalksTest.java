import java.util.ArrayDeque;
import java.util.ArrayList;
import java.util.Arrays;
import java.util.HashSet;
import java.util.List;
import java.util.Random;
import java.util.Set;

/**
 * Makes units at random (always the same ones) and goes all their WALKS one by one, each with the whole set of what
 * is ASSIGNED on it and with the ways that wait behind an N, as the document tells them; then compares every PLACE,
 * FACT, ERROR, VARIABLE and count with the answers of AssignFlow.
 */
public final class WalksTest {
    private static final int UNITS = 12000;
    private static final int MAX_CONFIGS = 150000;

    private static final class Node {
        final char sort;
        int variable = -1;
        int first = -1;
        int number = -1;
        int there = 0;
        boolean inTry = false;
        boolean hasCatch = false;
        boolean hasFinally = false;
        boolean hasOther = false;
        int label = 0;
        Node target = null;
        Node around = null;
        // Of a loop: the statement that gives it a LABEL.
        Node ownLabel = null;
        final List<Node> kids = new ArrayList<>();
        final List<Integer> parts = new ArrayList<>();
        // Of S: numbers of items, so many as there are, ahead of which L or O stands.
        final Set<Integer> entries = new HashSet<>();

        Node(char sort) {
            this.sort = sort;
        }

        boolean isStatement() {
            return "$%{:IWDFSTBCRX;".indexOf(sort) >= 0;
        }
    }

    // ---- units at random ----

    private static final class Maker {
        final Random random;
        final List<Integer> scope = new ArrayList<>();
        final List<Character> names = new ArrayList<>();
        final List<Boolean> finals = new ArrayList<>();
        final List<Node> around = new ArrayList<>();
        // The LABEL right ahead of the statement that is made next.
        Node pendingLabel = null;
        int budget;
        int tries = 0;

        Maker(Random random, int budget) {
            this.random = random;
            this.budget = budget;
        }

        Node unit() {
            Node root = new Node('U');
            int begin = 1 + random.nextInt(4);
            for (int i = 0; i < begin; i++) {
                add(root, give(), 0);
            }
            int many = 1 + random.nextInt(5);
            for (int i = 0; i < many && budget > 0; i++) {
                add(root, statement(5, true), 0);
            }
            return root;
        }

        int there() {
            int mask = 0;
            for (int v : scope) {
                mask |= 1 << v;
            }
            return mask;
        }

        Node node(char sort) {
            Node made = new Node(sort);
            made.there = there();
            made.inTry = tries > 0;
            budget--;
            return made;
        }

        void add(Node outer, Node kid, int part) {
            kid.around = outer;
            outer.kids.add(kid);
            outer.parts.add(part);
        }

        Node give() {
            for (int i = 0; i < 20; i++) {
                char name = (char) ('a' + random.nextInt(6));
                boolean used = false;
                for (int v : scope) {
                    used |= names.get(v) == name;
                }
                if (!used && names.size() < 12) {
                    boolean isFinal = random.nextBoolean();
                    Node made = node(isFinal ? '%' : '$');
                    made.variable = names.size();
                    names.add(name);
                    finals.add(isFinal);
                    scope.add(made.variable);
                    return made;
                }
            }
            return simple();
        }

        Node simple() {
            Node made = node(';');
            add(made, expression(2), 0);
            return made;
        }

        Node statement(int depth, boolean mayGive) {
            Node ownLabel = pendingLabel;
            pendingLabel = null;
            int pick = random.nextInt(34);
            if (depth <= 0 || budget <= 0) {
                pick = random.nextInt(12);
            }
            if (pick < 6) {
                return simple();
            }
            switch (pick) {
                case 6: case 7: return jump('B');
                case 8: return jump('C');
                case 9: return leaving('R');
                case 10: return leaving('X');
                case 11: return mayGive ? give() : simple();
                case 12: case 13: return block(depth);
                case 14: case 15: return labelled(depth);
                case 16: case 17: case 18: return conditional(depth);
                case 19: case 20: return loop('W', depth, ownLabel);
                case 21: case 22: return loop('D', depth, ownLabel);
                case 23: case 24: return loop('F', depth, ownLabel);
                case 25: case 26: case 27: return cases(depth);
                default: return tried(depth);
            }
        }

        Node body(int depth) {
            return statement(depth, false);
        }

        Node jump(char sort) {
            List<Node> good = new ArrayList<>();
            for (Node n : around) {
                boolean isLoop = "WDF".indexOf(n.sort) >= 0;
                if (sort == 'B' ? n.sort == ':' || n == nearest("WDFS") : isLoop) {
                    if (sort == 'B' || n == nearest("WDF") || n.ownLabel != null) {
                        good.add(n);
                    }
                }
            }
            if (good.isEmpty()) {
                return simple();
            }
            Node made = node(sort);
            made.target = good.get(random.nextInt(good.size()));
            if (sort == 'B') {
                made.label = made.target.sort == ':' ? made.target.label : 0;
            } else if (made.target != nearest("WDF") || made.target.ownLabel != null && random.nextBoolean()) {
                made.label = made.target.ownLabel.label;
            }
            return made;
        }

        Node nearest(String sorts) {
            for (int i = around.size() - 1; i >= 0; i--) {
                if (sorts.indexOf(around.get(i).sort) >= 0) {
                    return around.get(i);
                }
            }
            return null;
        }

        Node leaving(char sort) {
            Node made = node(sort);
            if (random.nextBoolean()) {
                add(made, expression(1), 0);
            }
            return made;
        }

        void statements(Node outer, int part, int depth, int most) {
            int before = scope.size();
            int many = random.nextInt(most + 1);
            for (int i = 0; i < many; i++) {
                add(outer, statement(depth - 1, true), part);
            }
            while (scope.size() > before) {
                scope.remove(scope.size() - 1);
            }
        }

        Node block(int depth) {
            Node made = node('{');
            around.add(made);
            statements(made, 0, depth, 3);
            around.remove(made);
            return made;
        }

        Node labelled(int depth) {
            int label = '2' + random.nextInt(8);
            for (Node n : around) {
                if (n.label == label) {
                    return simple();
                }
            }
            Node made = node(':');
            made.label = label;
            around.add(made);
            pendingLabel = made;
            add(made, body(depth - 1), 0);
            around.remove(made);
            return made;
        }

        Node conditional(int depth) {
            Node made = node('I');
            around.add(made);
            add(made, expression(3), 0);
            add(made, body(depth - 1), 0);
            if (random.nextBoolean()) {
                add(made, body(depth - 1), 0);
            }
            around.remove(made);
            return made;
        }

        Node loop(char sort, int depth, Node ownLabel) {
            Node made = node(sort);
            made.ownLabel = ownLabel;
            around.add(made);
            if (sort == 'D') {
                add(made, body(depth - 1), 0);
                add(made, expression(3), 0);
            } else {
                add(made, expression(3), 0);
                if (sort == 'F') {
                    add(made, expression(2), 0);
                }
                add(made, body(depth - 1), 0);
            }
            around.remove(made);
            return made;
        }

        Node cases(int depth) {
            Node made = node('S');
            around.add(made);
            add(made, expression(2), 0);
            int before = scope.size();
            int many = random.nextInt(5);
            for (int i = 0; i < many; i++) {
                if (i == 0 || random.nextInt(2) == 0) {
                    made.entries.add(i);
                    budget -= 2;
                }
                add(made, statement(depth - 1, true), 0);
            }
            if (random.nextInt(4) == 0) {
                made.entries.add(many);
            }
            made.hasOther = !made.entries.isEmpty() && random.nextBoolean();
            while (scope.size() > before) {
                scope.remove(scope.size() - 1);
            }
            around.remove(made);
            return made;
        }

        Node tried(int depth) {
            Node made = node('T');
            around.add(made);
            tries++;
            int pick = random.nextInt(3);
            made.hasCatch = pick != 0;
            made.hasFinally = pick != 1;
            statements(made, 0, depth, 3);
            if (made.hasCatch) {
                statements(made, 1, depth, 2);
            }
            if (made.hasFinally) {
                statements(made, 2, depth, 3);
            }
            tries--;
            around.remove(made);
            return made;
        }

        Node expression(int depth) {
            int pick = depth <= 0 || budget <= 0 ? random.nextInt(6) : random.nextInt(16);
            if (pick < 2 && !scope.isEmpty()) {
                Node made = node('a');
                made.variable = scope.get(random.nextInt(scope.size()));
                return made;
            }
            if (pick < 6) {
                return node("01##".charAt(random.nextInt(4)));
            }
            if (pick < 11 && !scope.isEmpty()) {
                Node made = node('=');
                made.variable = scope.get(random.nextInt(scope.size()));
                add(made, expression(depth - 1), 0);
                return made;
            }
            Node made = node("!&|?#".charAt(random.nextInt(5)));
            int many = "!&|?".indexOf(made.sort) < 0 ? 0 : made.sort == '!' ? 1 : made.sort == '?' ? 3 : 2;
            for (int i = 0; i < many; i++) {
                add(made, expression(depth - 1), 0);
            }
            return made;
        }
    }

    // ---- their texts ----

    private static final class Printer {
        final StringBuilder out = new StringBuilder();
        final Random random;
        final List<Character> names;
        final List<Node> places = new ArrayList<>();

        Printer(Random random, List<Character> names) {
            this.random = random;
            this.names = names;
        }

        void sign(char c) {
            if (random.nextInt(25) == 0) {
                out.append(random.nextBoolean() ? ' ' : '\n');
            }
            out.append(c);
        }

        void sign(Node n, char c) {
            sign(c);
            if (n.first < 0) {
                n.first = out.length() - 1;
            }
        }

        void number(Node n) {
            n.number = places.size();
            places.add(n);
        }

        static int binding(Node n) {
            switch (n.sort) {
                case '=': return 0;
                case '?': return 1;
                case '|': return 2;
                case '&': return 3;
                default: return 4;
            }
        }

        void expression(Node n, int least) {
            if (binding(n) < least || random.nextInt(12) == 0) {
                sign('(');
                inner(n);
                sign(')');
            } else {
                inner(n);
            }
        }

        void inner(Node n) {
            number(n);
            switch (n.sort) {
                case 'a': sign(n, names.get(n.variable)); break;
                case '=':
                    sign(n, names.get(n.variable));
                    sign('=');
                    expression(n.kids.get(0), 0);
                    break;
                case '!':
                    sign(n, '!');
                    expression(n.kids.get(0), 4);
                    break;
                case '&': sides(n, 3, 4); break;
                case '|': sides(n, 2, 3); break;
                case '?':
                    sides(n, 2, 0);
                    sign(':');
                    expression(n.kids.get(2), 1);
                    break;
                default: sign(n, n.sort);
            }
        }

        void sides(Node n, int left, int right) {
            expression(n.kids.get(0), left);
            n.first = n.kids.get(0).first;
            sign(n.sort);
            expression(n.kids.get(1), right);
        }

        void part(Node n, int part) {
            sign('{');
            for (int i = 0; i < n.kids.size(); i++) {
                if (n.parts.get(i) == part) {
                    statement(n.kids.get(i));
                }
            }
            sign('}');
        }

        void bracketed(Node n) {
            sign('(');
            expression(n, 0);
            sign(')');
        }

        void statement(Node n) {
            number(n);
            switch (n.sort) {
                case '$': case '%':
                    sign(n, n.sort);
                    sign(names.get(n.variable));
                    sign(';');
                    break;
                case '{':
                    sign(n, '{');
                    for (Node kid : n.kids) {
                        statement(kid);
                    }
                    sign('}');
                    break;
                case ':':
                    sign(n, (char) n.label);
                    sign(':');
                    statement(n.kids.get(0));
                    break;
                case ';': {
                    int mark = out.length();
                    expression(n.kids.get(0), 0);
                    while (out.charAt(mark) == ' ' || out.charAt(mark) == '\n') {
                        mark++;
                    }
                    n.first = mark;
                    sign(';');
                    break;
                }
                default: compound(n);
            }
        }

        void compound(Node n) {
            sign(n, n.sort);
            switch (n.sort) {
                case 'I':
                    bracketed(n.kids.get(0));
                    statement(n.kids.get(1));
                    if (n.kids.size() > 2) {
                        sign('E');
                        statement(n.kids.get(2));
                    }
                    break;
                case 'W':
                    bracketed(n.kids.get(0));
                    statement(n.kids.get(1));
                    break;
                case 'D':
                    statement(n.kids.get(0));
                    bracketed(n.kids.get(1));
                    sign(';');
                    break;
                case 'F':
                    sign('(');
                    expression(n.kids.get(0), 0);
                    sign(';');
                    expression(n.kids.get(1), 0);
                    sign(')');
                    statement(n.kids.get(2));
                    break;
                case 'S': cases(n); break;
                case 'T':
                    part(n, 0);
                    if (n.hasCatch) {
                        sign('K');
                        part(n, 1);
                    }
                    if (n.hasFinally) {
                        sign('N');
                        part(n, 2);
                    }
                    break;
                case 'B': case 'C':
                    if (n.label != 0) {
                        sign((char) n.label);
                    }
                    sign(';');
                    break;
                default:
                    if (!n.kids.isEmpty()) {
                        expression(n.kids.get(0), 0);
                    }
                    sign(';');
            }
        }

        void cases(Node n) {
            bracketed(n.kids.get(0));
            sign('{');
            int items = n.kids.size() - 1;
            boolean otherIsDue = n.hasOther;
            for (int i = 0; i <= items; i++) {
                if (n.entries.contains(i)) {
                    boolean isOther = otherIsDue;
                    otherIsDue = false;
                    sign(isOther ? 'O' : 'L');
                    sign(':');
                    if (random.nextInt(5) == 0) {
                        sign('L');
                        sign(':');
                    }
                }
                if (i < items) {
                    statement(n.kids.get(i + 1));
                }
            }
            sign('}');
        }
    }

    /** An I without E as the body of an I with E would take that E away; such a unit is not meant. */
    private static boolean hasDanglingElse(Node n) {
        if (n.sort == 'I' && n.kids.size() > 2 && endsOpen(n.kids.get(1))) {
            return true;
        }
        for (Node kid : n.kids) {
            if (hasDanglingElse(kid)) {
                return true;
            }
        }
        return false;
    }

    private static boolean endsOpen(Node n) {
        switch (n.sort) {
            case 'I': return n.kids.size() == 2 || endsOpen(n.kids.get(2));
            case ':': return endsOpen(n.kids.get(0));
            case 'W': return endsOpen(n.kids.get(1));
            case 'F': return endsOpen(n.kids.get(2));
            default: return false;
        }
    }

    // ---- all their walks ----

    private enum Act { EVAL, TRUE, FALSE, JUMP, RETURN, RAISE }

    /** What a walk does next; of JUMP, node is the B or C. */
    private record Doing(Act act, Node node) { }

    /** What waits until the thing above it has ended; waiting is the way that goes on behind an N. */
    private record Frame(Node node, int index, int part, Doing waiting, Frame below) { }

    private record Config(Doing doing, Frame frame, int bits) { }

    private static final class Seen {
        boolean reached = false;
        int all = -1;
        int some = 0;

        void add(int bits) {
            reached = true;
            all &= bits;
            some |= bits;
        }
    }

    private static final class Walker {
        final Node root;
        final Seen[][] seen;
        final Seen end = new Seen();
        final boolean[] twice;
        final int[] assignedTwice = new int[12];
        final Set<Config> known = new HashSet<>();
        final ArrayDeque<Config> open = new ArrayDeque<>();

        Walker(Node root, int places) {
            this.root = root;
            seen = new Seen[places][4];
            for (Seen[] row : seen) {
                for (int i = 0; i < 4; i++) {
                    row[i] = new Seen();
                }
            }
            twice = new boolean[places];
        }

        void go(Doing doing, Frame frame, int bits) {
            Config config = new Config(doing, frame, bits);
            if (known.add(config)) {
                open.add(config);
            }
        }

        void eval(Node n, Frame frame, int bits) {
            go(new Doing(Act.EVAL, n), frame, bits);
        }

        boolean walkAll() {
            sequence(root, 0, 0, null, null, 0);
            while (!open.isEmpty() && known.size() < MAX_CONFIGS) {
                Config c = open.remove();
                step(c.doing, c.frame, c.bits);
            }
            return open.isEmpty();
        }

        void step(Doing doing, Frame frame, int bits) {
            switch (doing.act) {
                case EVAL: begin(doing.node, frame, bits); break;
                case TRUE: case FALSE: resume(frame, doing.act == Act.TRUE, bits); break;
                default: unwind(doing, frame, bits);
            }
        }

        /** The statements of one part, from number index on; then the end of that part. */
        void sequence(Node n, int index, int part, Doing waiting, Frame below, int bits) {
            for (int i = index; i < n.kids.size(); i++) {
                if (n.parts.get(i) == part) {
                    eval(n.kids.get(i), new Frame(n, i, part, waiting, below), bits);
                    return;
                }
            }
            if (n.sort == 'U') {
                end.add(bits);
            } else if (n.sort != 'T') {
                finish(n, true, below, bits);
            } else if (part == 2) {
                goOnWay(n, waiting, below, bits);
            } else if (n.hasFinally) {
                sequence(n, 0, 2, new Doing(Act.TRUE, n), below, bits);
            } else {
                finish(n, true, below, bits);
            }
        }

        void goOnWay(Node n, Doing waiting, Frame below, int bits) {
            if (waiting.act == Act.TRUE) {
                finish(n, true, below, bits);
            } else {
                go(waiting, below, bits);
            }
        }

        void finish(Node n, boolean value, Frame below, int bits) {
            seen[n.number][1].add(bits);
            if (!n.isStatement()) {
                seen[n.number][value ? 2 : 3].add(bits);
            }
            go(new Doing(value ? Act.TRUE : Act.FALSE, null), below, bits);
            if (n.sort == '=' && n.inTry) {
                go(new Doing(Act.RAISE, null), below, bits);
            }
        }

        void begin(Node n, Frame frame, int bits) {
            seen[n.number][0].add(bits);
            if (n.inTry) {
                go(new Doing(Act.RAISE, null), frame, bits);
            }
            switch (n.sort) {
                case '0': finish(n, false, frame, bits); break;
                case '1': finish(n, true, frame, bits); break;
                case 'a': case '#':
                    finish(n, true, frame, bits);
                    finish(n, false, frame, bits);
                    break;
                case '$': case '%': finish(n, true, frame, bits & ~(1 << n.variable)); break;
                case '{': case 'T': sequence(n, 0, 0, null, frame, bits); break;
                case 'B': case 'C': go(new Doing(Act.JUMP, n), frame, bits); break;
                case 'R': case 'X':
                    if (n.kids.isEmpty()) {
                        go(new Doing(n.sort == 'R' ? Act.RETURN : Act.RAISE, null), frame, bits);
                        break;
                    }
                    kid(n, 0, frame, bits);
                    break;
                default: kid(n, 0, frame, bits);
            }
        }

        void kid(Node n, int index, Frame below, int bits) {
            eval(n.kids.get(index), new Frame(n, index, 0, null, below), bits);
        }

        void resume(Frame f, boolean value, int bits) {
            Node n = f.node;
            int i = f.index;
            switch (n.sort) {
                case '!': finish(n, !value, f.below, bits); break;
                case '&': case '|':
                    if (i == 0 && value == (n.sort == '&')) {
                        kid(n, 1, f.below, bits);
                    } else {
                        finish(n, value, f.below, bits);
                    }
                    break;
                case '?':
                    if (i == 0) {
                        kid(n, value ? 1 : 2, f.below, bits);
                    } else {
                        finish(n, value, f.below, bits);
                    }
                    break;
                case '=':
                    if ((bits >> n.variable & 1) == 1) {
                        twice[n.number] = true;
                        assignedTwice[n.variable] = 1;
                    }
                    finish(n, value, f.below, bits | 1 << n.variable);
                    break;
                case ';': case ':': finish(n, true, f.below, bits); break;
                case 'R': go(new Doing(Act.RETURN, null), f.below, bits); break;
                case 'X': go(new Doing(Act.RAISE, null), f.below, bits); break;
                case 'U': case '{': case 'T': sequence(n, i + 1, f.part, f.waiting, f.below, bits); break;
                case 'S':
                    if (i > 0) {
                        sequence(n, i + 1, 0, null, f.below, bits);
                    } else {
                        enter(n, f.below, bits);
                    }
                    break;
                default: resumeControl(f, value, bits);
            }
        }

        void enter(Node n, Frame below, int bits) {
            for (int entry : n.entries) {
                sequence(n, entry + 1, 0, null, below, bits);
            }
            if (!n.hasOther) {
                finish(n, true, below, bits);
            }
        }

        void resumeControl(Frame f, boolean value, int bits) {
            Node n = f.node;
            int i = f.index;
            if (n.sort == 'I') {
                if (i > 0 || !value && n.kids.size() < 3) {
                    finish(n, true, f.below, bits);
                } else {
                    kid(n, value ? 1 : 2, f.below, bits);
                }
                return;
            }
            int test = n.sort == 'D' ? 1 : 0;
            int body = n.sort == 'D' ? 0 : n.sort == 'W' ? 1 : 2;
            if (i == test) {
                if (value) {
                    kid(n, body, f.below, bits);
                } else {
                    finish(n, true, f.below, bits);
                }
            } else if (i == body) {
                kid(n, n.sort == 'W' ? 0 : 1, f.below, bits);
            } else {
                kid(n, 0, f.below, bits);
            }
        }

        void unwind(Doing doing, Frame f, int bits) {
            if (f == null) {
                return;
            }
            Node n = f.node;
            if (n.sort == 'T' && f.part == 0 && n.hasCatch && doing.act == Act.RAISE) {
                sequence(n, 0, 1, null, f.below, bits);
            } else if (n.sort == 'T' && f.part < 2 && n.hasFinally) {
                sequence(n, 0, 2, doing, f.below, bits);
            } else if (doing.act == Act.JUMP && doing.node.target == n) {
                if (doing.node.sort == 'B') {
                    finish(n, true, f.below, bits);
                } else {
                    kid(n, n.sort == 'W' ? 0 : 1, f.below, bits);
                }
            } else {
                go(doing, f.below, bits);
            }
        }
    }

    // ---- comparing ----

    private static void compare(Check check, String text, Maker maker, Printer printer, Walker walker) {
        AssignFlow flow = new AssignFlow();
        String of = "of <" + text.replace("\n", "\\n") + ">: ";
        int n = printer.places.size();
        check.due(of + "read()", Check.read(flow, text), n);
        check.due(of + "fault()", flow.fault(), -1);
        if (flow.count(0) != n) {
            return;
        }
        List<int[]> errors = new ArrayList<>();
        int vars = maker.names.size();
        int[] uses = new int[vars];
        int[] assigns = new int[vars];
        int[] giver = new int[vars];
        for (Node p : printer.places) {
            comparePlace(check, of, flow, maker, p);
            compareFacts(check, of, flow, walker, p);
            int error = errorOf(maker, walker, p);
            if (error != 0) {
                errors.add(new int[] {p.number, error});
            }
            if (p.sort == 'a') {
                uses[p.variable]++;
            } else if (p.sort == '=') {
                assigns[p.variable]++;
            } else if (p.variable >= 0) {
                giver[p.variable] = p.number;
            }
        }
        for (int i = 0; i <= errors.size(); i++) {
            check.due(of + "error(" + i + ", 0)", flow.error(i, 0), i < errors.size() ? errors.get(i)[0] : -1);
            check.due(of + "error(" + i + ", 1)", flow.error(i, 1), i < errors.size() ? errors.get(i)[1] : -1);
        }
        for (int v = 0; v < vars; v++) {
            String name = of + "variable(" + v + ", ";
            check.due(name + "0)", flow.variable(v, 0), maker.names.get(v));
            check.due(name + "1)", flow.variable(v, 1), maker.finals.get(v) ? 1 : 0);
            check.due(name + "2)", flow.variable(v, 2), giver[v]);
            check.due(name + "3)", flow.variable(v, 3), 1 - walker.assignedTwice[v]);
            check.due(name + "4)", flow.variable(v, 4), uses[v]);
            check.due(name + "5)", flow.variable(v, 5), assigns[v]);
        }
        check.due(of + "count(1)", flow.count(1), vars);
        check.due(of + "count(2)", flow.count(2), errors.size());
        check.due(of + "count(4)", flow.count(4), walker.end.reached ? 1 : 0);
        check.due(of + "count(5)", flow.count(5), walker.end.all & maker.there());
    }

    private static void comparePlace(Check check, String of, AssignFlow flow, Maker maker, Node p) {
        String name = of + "place(" + p.number + ", ";
        int sort = p.sort == 'a' ? maker.names.get(p.variable) : p.sort;
        check.due(name + "0)", flow.place(p.number, 0), sort);
        check.due(name + "1)", flow.place(p.number, 1), p.first);
        check.due(name + "2)", flow.place(p.number, 2), p.around.sort == 'U' ? -1 : p.around.number);
        check.due(name + "3)", flow.place(p.number, 3), p.variable);
    }

    private static void compareFacts(Check check, String of, AssignFlow flow, Walker walker, Node p) {
        for (int when = 0; when < 4; when++) {
            String name = of + "fact(" + p.number + ", " + when + ", ";
            boolean bad = when > 1 && p.isStatement();
            Seen seen = walker.seen[p.number][when];
            boolean gives = p.sort == '$' || p.sort == '%';
            int there = p.there | (gives && when == 1 ? 1 << p.variable : 0);
            check.due(name + "0)", flow.fact(p.number, when, 0), bad ? -2 : seen.reached ? 1 : 0);
            check.due(name + "1)", flow.fact(p.number, when, 1), bad ? -2 : seen.all & there);
            check.due(name + "2)", flow.fact(p.number, when, 2), bad ? -2 : ~seen.some & there);
        }
    }

    private static int errorOf(Maker maker, Walker walker, Node p) {
        Seen before = walker.seen[p.number][0];
        if (p.isStatement()) {
            return before.reached ? 0 : 3;
        }
        if (p.sort == 'a') {
            return before.reached && (before.all >> p.variable & 1) == 0 ? 1 : 0;
        }
        return p.sort == '=' && maker.finals.get(p.variable) && walker.twice[p.number] ? 2 : 0;
    }

    public static void main(String[] args) {
        Check check = new Check();
        int compared = 0;
        int[] sorts = new int[128];
        for (int seed = 0; compared < UNITS; seed++) {
            Random random = new Random(seed);
            Maker maker = new Maker(random, 10 + random.nextInt(60));
            Node root = maker.unit();
            Printer printer = new Printer(random, maker.names);
            for (Node kid : root.kids) {
                printer.statement(kid);
            }
            String text = printer.out.toString();
            if (text.length() > 240 || hasDanglingElse(root)) {
                continue;
            }
            Walker walker = new Walker(root, printer.places.size());
            if (!walker.walkAll()) {
                continue;
            }
            compare(check, text, maker, printer, walker);
            for (Node p : printer.places) {
                sorts[p.sort]++;
            }
            compared++;
            if (check.wrong() > 50) {
                break;
            }
        }
        check.isTrue("each sort was there: " + Arrays.toString(sorts), hasAll(sorts));
        System.out.println(compared + " units walked");
        check.end();
    }

    private static boolean hasAll(int[] sorts) {
        for (char c : "$%{:IWDFSTBCRX;a01#!&|?=".toCharArray()) {
            if (sorts[c] < 100) {
                return false;
            }
        }
        return true;
    }
}
