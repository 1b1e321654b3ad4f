import java.nio.charset.StandardCharsets;
import java.util.Arrays;

/** What the tests of the project share: objects that were told a playbook, and answers that are due. */
final class Dues {
    private static int asked = 0;
    private static int wrong = 0;

    /** A call that answers a number; what is so counts 1 or 0. */
    interface Call {
        long answer();
    }

    private Dues() {
    }

    static void due(String call, long got, long want) {
        asked++;
        if (got != want) {
            wrong++;
            System.out.println(call + " answered " + got + ", due is " + want);
        }
    }

    static void due(String call, boolean got, boolean want) {
        due(call, got ? 1 : 0, want ? 1 : 0);
    }

    static void due(String call, String got, String want) {
        asked++;
        if (!got.equals(want)) {
            wrong++;
            System.out.println(call + " answered " + got + ", due is " + want);
        }
    }

    /** Exactly this class: what the machine throws is of a class below it. */
    static void dueThrow(String call, Class<? extends Exception> want, Call asker) {
        due(call, thrownBy(asker), want.getSimpleName());
    }

    static String thrownBy(Call call) {
        try {
            return "nothing, but " + call.answer();
        } catch (RuntimeException e) {
            return e.getClass().getSimpleName();
        }
    }

    static void feed(MaskPlays x, String text) {
        feed(x, text.getBytes(StandardCharsets.ISO_8859_1));
    }

    static void feed(MaskPlays x, byte[] text) {
        int before = x.tapeBytes();
        byte[] padded = Arrays.copyOf(text, (text.length + 19) / 20 * 20);
        for (int i = 0; i < padded.length; i += 20) {
            x.feed(number(padded, i), number(padded, i + 4), number(padded, i + 8),
                    number(padded, i + 12), number(padded, i + 16));
        }
        x.trim(before + text.length);
    }

    private static int number(byte[] bytes, int from) {
        int number = 0;
        for (int i = from; i < from + 4; i++) {
            number = number << 8 | bytes[i] & 255;
        }
        return number;
    }

    static int teach(MaskPlays x, String text) {
        feed(x, text);
        return x.teach();
    }

    /** A new object that was told this, which has to be without an error. */
    static MaskPlays told(String text) {
        MaskPlays x = new MaskPlays();
        due("teach " + text, teach(x, text), 0);
        due("errorAt " + text, x.errorAt(), -1);
        return x;
    }

    /** The ^ stands ahead of the token at which the error is due; it is no sign of the tape. */
    static void dueError(int error, String marked) {
        dueErrorAt(error, marked.indexOf('^'), marked.replace("^", ""));
    }

    static void dueErrorAt(int error, int place, String text) {
        MaskPlays x = new MaskPlays();
        due("teach " + text, teach(x, text), error);
        due("errorAt of " + text, x.errorAt(), place);
    }

    static String textOf(MaskPlays x, int play) {
        StringBuilder text = new StringBuilder();
        for (int place = 0; place < x.textLength(play); place++) {
            text.append((char) x.letterAt(play, place));
        }
        return text.toString();
    }

    static void dueText(MaskPlays x, int play, String want) {
        due("text of play " + play, textOf(x, play), want);
    }

    static void end() {
        System.out.println(asked + " answers, " + wrong + " of them not as due");
        if (wrong != 0) {
            System.exit(1);
        }
    }
}
