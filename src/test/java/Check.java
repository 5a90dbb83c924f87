/** Counts the answers that are not as due, and tells of each. */
final class Check {
    private int wrong = 0;
    private int asked = 0;

    void due(String call, long got, long want) {
        asked++;
        if (got != want) {
            wrong++;
            System.out.println(call + " answered " + got + ", due is " + want);
        }
    }

    /** Ends the test: exit code 1, if an answer was wrong or none was asked for. */
    void end(String test) {
        System.out.println(test + ": " + asked + " answers, " + wrong + " not as due");
        if (wrong != 0 || asked == 0) {
            System.exit(1);
        }
    }

    static void write(TideAsked tide, String text) {
        for (char letter : text.toCharArray()) {
            tide.letter(letter);
        }
    }

    static TideAsked on(String text) {
        TideAsked tide = new TideAsked();
        write(tide, text);
        tide.shore();
        return tide;
    }
}
