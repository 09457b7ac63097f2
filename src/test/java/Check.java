/** What the tests share: telling a text, and comparing answers with those that are due. */
final class Check {
    private static int calls, wrong;

    private Check() { }

    static void due(String call, long got, long want) {
        calls++;
        if (got == want) return;
        wrong++;
        System.out.println(call + " answered " + got + ", due is " + want);
    }

    /** Feeds a text, eight bytes at a time; the bits above those that are asked for are set, to be cut off. */
    static void tell(DeputyQuarrels x, String text) {
        for (int i = 0; i < text.length(); i += 8) {
            int n = Math.min(8, text.length() - i);
            long bytes = -1;
            for (int k = 0; k < n; k++) bytes = bytes << 8 | text.charAt(i + k);
            x.feed(n, bytes);
        }
    }

    /** A new object with a town that has no fault. */
    static DeputyQuarrels town(String text) {
        DeputyQuarrels x = new DeputyQuarrels();
        tell(x, text);
        due("town() of " + text + " has no fault: fault()", x.town() < 0 ? 0 : x.fault(), -1);
        return x;
    }

    static void close() {
        System.out.println(calls + " answers, " + wrong + " not as due");
        if (wrong != 0) System.exit(1);
    }
}
