/** Compares answers with those that are due, tells every wrong one, and ends a test. */
final class Due {
    private final String test;
    private int calls = 0;
    private int wrong = 0;

    Due(String test) {
        this.test = test;
    }

    void due(String call, long got, long want) {
        calls++;
        if (got == want) return;
        wrong++;
        System.out.println(test + ": " + call + " answered " + got + ", due is " + want);
    }

    int wrong() {
        return wrong;
    }

    /** The last call of a test's main method. */
    void end() {
        System.out.println(test + ": " + calls + " answers, " + wrong + " not as due");
        if (wrong != 0) System.exit(1);
    }

    /** Puts a text on the pad, eight characters at a time; answers what the last put() answers. */
    static int write(PurseAuction x, String text) {
        int answer = 0;
        for (int from = 0; from < text.length(); from += 8) {
            answer = x.put(code(text.substring(from, Math.min(text.length(), from + 8))));
        }
        return answer;
    }

    /** The number that holds up to eight characters. */
    static long code(String text) {
        long number = 0;
        for (char sign : text.toCharArray()) number = number << 8 | sign;
        return number;
    }
}
