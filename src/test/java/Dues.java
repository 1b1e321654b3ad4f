import java.nio.charset.StandardCharsets;
import java.util.Arrays;

/** What the tests of the project share: objects that were told a playbook, and answers that are due. */
final class Dues {
    private static int asked = 0;
    private static int wrong = 0;
    /** What stands ahead of each wrong answer. */
    private static String about = "";

    /** A call that answers a number; what is so counts 1 or 0. */
    interface Call {
        long answer();
    }

    private Dues() {
    }

    static int asked() {
        return asked;
    }

    static void about(String what) {
        about = what;
    }

    static void due(String call, long got, long want) {
        if (got == want) {
            asked++;
        } else {
            due(call, Long.toString(got), Long.toString(want));
        }
    }

    static void due(String call, boolean got, boolean want) {
        due(call, got ? 1 : 0, want ? 1 : 0);
    }

    static void due(String call, String got, String want) {
        asked++;
        if (!got.equals(want)) {
            wrong++;
            System.out.println(about + call + " answered " + got + ", due is " + want);
        }
    }

    /** Exactly this class: what the machine throws is of a class below it. */
    static void dueThrow(String call, Class<? extends Exception> want, Call asker) {
        due(call, thrownBy(asker), want.getSimpleName());
    }

    static String thrownBy(Call call) {
        try {
            return "nothing, but " + call.answer();
        } catch (RuntimeException e) {
            return e.getClass().getSimpleName();
        }
    }

    static void feed(MaskPlays x, String text) {
        feed(x, text.getBytes(StandardCharsets.ISO_8859_1));
    }

    static void feed(MaskPlays x, byte[] text) {
        int before = x.tapeBytes();
        byte[] padded = Arrays.copyOf(text, (text.length + 19) / 20 * 20);
        for (int i = 0; i < padded.length; i += 20) {
            x.feed(number(padded, i), number(padded, i + 4), number(padded, i + 8),
                    number(padded, i + 12), number(padded, i + 16));
        }
        x.trim(before + text.length);
    }

    private static int number(byte[] bytes, int from) {
        int number = 0;
        for (int i = from; i < from + 4; i++) {
            number = number << 8 | bytes[i] & 255;
        }
        return number;
    }

    static int teach(MaskPlays x, String text) {
        feed(x, text);
        return x.teach();
    }

    /** A new object that was told this, which has to be without an error. */
    static MaskPlays told(String text) {
        MaskPlays x = new MaskPlays();
        due("teach " + text, teach(x, text), 0);
        due("errorAt " + text, x.errorAt(), -1);
        return x;
    }

    /** The ^ stands ahead of the token at which the error is due; it is no sign of the tape. */
    static void dueError(int error, String marked) {
        dueErrorAt(error, marked.indexOf('^'), marked.replace("^", ""));
    }

    static void dueErrorAt(int error, int place, String text) {
        MaskPlays x = new MaskPlays();
        due("teach " + text, teach(x, text), error);
        due("errorAt of " + text, x.errorAt(), place);
    }

    /** The play has this text behind its first step, and so many of its masks are renamed by it. */
    static void dueStep(String told, String part, String text, int renamed) {
        MaskPlays x = told(told + "play p is " + part + ";");
        int play = x.plays() - 1;
        long before = x.digest();
        due("renamedByStep of " + part, x.renamedByStep(play), renamed);
        due("digest behind it", x.digest(), before);
        x.doStep(play);
        dueText(x, play, text);
        due("stepsDone", x.stepsDone(play), 1);
    }

    static void dueStep(String part, String text, int renamed) {
        dueStep("actor a; actor b; ", part, text, renamed);
    }

    /** By a gift one sees whether a test holds. */
    static boolean holds(String told, String test) {
        MaskPlays x = told("actor a; play g is a; " + told + " give g to g when " + test + ";");
        return x.passEvenings(1) == 1;
    }

    static void dueHolds(String test) {
        due(test, holds("", test), true);
    }

    static void dueNot(String test) {
        due(test, holds("", test), false);
    }

    static String textOf(MaskPlays x, int play) {
        StringBuilder text = new StringBuilder();
        for (int place = 0; place < x.textLength(play); place++) {
            text.append((char) x.letterAt(play, place));
        }
        return text.toString();
    }

    static void dueText(MaskPlays x, int play, String want) {
        due("text of play " + play, textOf(x, play), want);
    }

    static void end() {
        System.out.println(asked + " answers, " + wrong + " of them not as due");
        if (wrong != 0) {
            System.exit(1);
        }
    }
}
