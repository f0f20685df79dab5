/** Counts and prints the answers that are not as due. */
final class Due {
    private final String test;
    private String sentence = "";
    private int asked;
    private int wrong;

    Due(String test) {
        this.test = test;
    }

    /** The sentence of the document that the answers from here on are due by. */
    void by(String itsSentence) {
        sentence = "\"" + itsSentence + "\": ";
    }

    void is(String call, long got, long want) {
        asked++;
        if (got != want) {
            wrong++;
            System.out.println(test + ": " + sentence + call + " answered " + got + ", due is " + want);
        }
    }

    void holds(String what, boolean is) {
        is(what, is ? 1 : 0, 1);
    }

    /** Ends the program, with exit code 1 if an answer was wrong. */
    void close() {
        System.out.println(test + ": " + asked + " answers, " + wrong + " of them wrong");
        if (wrong != 0 || asked == 0) {
            System.exit(1);
        }
    }

    /** Types a whole text, a character a byte. */
    static int type(StackPrograms x, String text) {
        int answer = 0;
        for (int at = 0; at < text.length(); at += 8) {
            int n = Math.min(8, text.length() - at);
            long w = 0;
            for (int i = n - 1; i >= 0; i--) {
                w = w << 8 | text.charAt(at + i);
            }
            answer = x.type(w, n);
        }
        return answer;
    }

    static int read(StackPrograms x, String text) {
        type(x, text);
        return x.read();
    }
}
