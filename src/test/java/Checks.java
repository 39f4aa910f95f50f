import java.util.function.Supplier;

/** Counts what a test asks; a test ends by end(), with exit code 1 if an answer was not the one due. */
final class Checks {
    private int asked;
    private int wrong;
    private int sentences;
    private int askedBeforeSentence;
    private String sentence = "";

    /** From here on the answers asked for are those of this sentence of the document. */
    void sentence(String where, String words) {
        endSentence();
        sentences++;
        askedBeforeSentence = asked;
        sentence = where + ", \"" + words + "\": ";
    }

    private void endSentence() {
        if (sentences > 0 && asked == askedBeforeSentence) {
            wrong++;
            System.out.println(sentence + "nothing was asked");
        }
    }

    void due(String what, Object got, Object want) {
        asked++;
        if (!want.equals(got)) {
            wrong++;
            System.out.println(sentence + what + " answered " + got + ", due is " + want);
        }
    }

    void dueThrow(String what, Class<? extends RuntimeException> want, Supplier<?> call) {
        due(what, answer(call), "throws." + want.getSimpleName());
    }

    /** The bytes of the stream from a place on. */
    void dueBytes(String what, VoiceForge forge, int from, int... want) {
        for (int k = 0; k < want.length; k++) {
            int at = from + k;
            due(what + ": byte " + at, answer(() -> forge.stream(at)), want[k]);
        }
    }

    /** The samples of the decoder or the coder from sample 0 on. */
    void dueOut(String what, VoiceForge forge, boolean decoder, double... want) {
        for (int n = 0; n < want.length; n++) {
            int at = n;
            due(what + ": sample " + n, answer(() -> forge.out(decoder, at)), want[n]);
        }
    }

    void dueCounts(String what, VoiceForge forge, int... want) {
        for (int k = 0; k < want.length; k++) {
            due(what + ": count " + k, forge.count(k), want[k]);
        }
    }

    void dueCodes(String what, VoiceForge forge, int... want) {
        for (int k = 0; k < want.length; k++) {
            due(what + ": code " + k, forge.code(k), want[k]);
        }
    }

    /** The answer of a call as a value, be it one or the exception that the call throws. */
    static Object answer(Supplier<?> call) {
        try {
            return call.get();
        } catch (RuntimeException e) {
            return "throws." + e.getClass().getSimpleName();
        }
    }

    void end() {
        endSentence();
        String of = sentences > 0 ? " of " + sentences + " sentences" : "";
        System.out.println(asked + " answers asked" + of + ", " + wrong + " wrong");
        if (wrong != 0 || asked == 0) {
            System.exit(1);
        }
    }
}
