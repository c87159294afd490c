/** Counts the answers that are not as due, and reads whole texts into an AssignFlow. */
final class Check {
    private int wrong = 0;
    private int done = 0;

    void due(String what, long got, long want) {
        done++;
        if (got != want) {
            wrong++;
            if (wrong <= 50) {
                System.out.println(what + " answered " + got + ", due is " + want);
            }
        }
    }

    void isTrue(String what, boolean holds) {
        due(what, holds ? 1 : 0, 1);
    }

    int wrong() {
        return wrong;
    }

    void end() {
        System.out.println(done + " answers, " + wrong + " not as due");
        if (wrong != 0) {
            System.exit(1);
        }
    }

    static void collect(AssignFlow flow, String text) {
        for (int i = 0; i < text.length(); i += 8) {
            int n = Math.min(8, text.length() - i);
            long w = 0;
            for (int k = 0; k < n; k++) {
                w |= (long) (text.charAt(i + k) & 255) << (8 * k);
            }
            if (flow.collect(w, n) < 0) {
                throw new IllegalStateException("not collected: " + text);
            }
        }
    }

    static int read(AssignFlow flow, String text) {
        flow.forget();
        collect(flow, text);
        return flow.read();
    }

    static AssignFlow of(String text) {
        AssignFlow flow = new AssignFlow();
        read(flow, text);
        return flow;
    }
}
