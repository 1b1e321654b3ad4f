import java.nio.charset.StandardCharsets;

/** Playbooks and calls by a fixed row of numbers: the program and the reference answer alike. */
final class AgainstReferenceTest {
    private static final int BOOKS = 3000;
    private static final String[] TOKENS = ("actor play is mask step give to renew when evening size"
            + " masks steps finished same not and or min max ( ) [ ] ; , + - * / < > = <= >= x y z0 a b"
            + " p0 p1 p2 0 7 999999 1234567 abcdefghij abcdefghijk ! 12ab").split(" ");

    private static int steps = 0;
    private static int renamings = 0;
    private long state;
    private int actors;
    private int plays;

    private AgainstReferenceTest(long seed) {
        state = seed;
    }

    public static void main(String[] args) {
        int books = args.length > 0 ? Integer.parseInt(args[0]) : BOOKS;
        long first = args.length > 1 ? Long.parseLong(args[1]) : 1;
        int errors = 0;
        for (long seed = first; seed < first + books; seed++) {
            errors += new AgainstReferenceTest(seed * 7919).compare(seed);
        }
        System.out.println(books + " runs, " + errors + " of them with an error, " + steps + " steps, "
                + renamings + " of them with masks renamed");
        Dues.end();
    }

    private int number(int below) {
        state = state * 6364136223846793005L + 1442695040888963407L;
        return (int) ((state >>> 33) % below);
    }

    private boolean once(int in) {
        return number(in) == 0;
    }

    private String oneOf(String... choices) {
        return choices[number(choices.length)];
    }

    // ---- playbooks

    private String playbook() {
        StringBuilder book = new StringBuilder();
        actors = 0;
        plays = 0;
        int most = once(20) ? 9 : 3;
        for (int n = number(most + 1); n > 0; n--) {
            book.append("actor ").append(actorName(actors++)).append(";\n");
        }
        most = once(20) ? 13 : 7;
        for (int n = 1 + number(most); n > 0; n--) {
            if (once(30)) {
                // Such an actor may have the name of masks told ahead of it, but not behind it.
                book.append("actor ").append(oneOf("x", "y", "a", "p0")).append("; ");
            }
            String part = part(once(4) ? 1 : once(60) ? 9 : 2 + number(6), "");
            book.append("play p").append(plays++).append(" is ").append(part).append("; ");
        }
        most = once(20) ? 17 : 6;
        for (int n = number(most + 1); n > 0; n--) {
            book.append(note()).append(";\n");
        }
        return book.toString();
    }

    /** Among them names that renaming gives. */
    private static String actorName(int actor) {
        return new String[] {"a", "z0", "b", "z2", "c", "d", "e", "f", "g"}[actor];
    }

    private String playName() {
        return "p" + (once(200) ? plays : number(Math.max(1, plays)));
    }

    private String part(int depth, String around) {
        int choice = number(depth > 2 ? 13 : depth > 0 ? 9 : 3);
        if (choice < 3) {
            String[] known = (around + (actors > 0 ? actorName(number(actors)) : "")).trim().split(" ");
            if (plays > 0 && (once(3) || known[0].isEmpty())) {
                return playName();
            }
            return known[0].isEmpty() ? "mask x(x)" : oneOf(known);
        }
        if (choice < 6) {
            String name = once(200) ? oneOf("a", "p0", "is") : oneOf("x", "y", "z1", "z0x", "w");
            return "mask " + name + "(" + part(depth - 1, around + name + " ") + ")";
        }
        if (choice > 8) {
            String name = oneOf("x", "y", "z1");
            String inner = around.isEmpty() || once(3) ? oneOf("x", "y", "z1") : oneOf(around.trim().split(" "));
            // Uses below two masks, given what has open names: so masks have to be renamed.
            String with = around + name + " " + inner + " ";
            return "[mask " + name + "(mask " + inner + "([" + name + " "
                    + (once(2) ? part(0, with) : part(depth - 4, with)) + "])) "
                    + (once(2) ? part(0, around) : part(depth - 1, around)) + "]";
        }
        StringBuilder scene = new StringBuilder("[");
        for (int n = once(6) ? 2 + number(5) : 2; n > 0; n--) {
            scene.append(part(depth - 1, around)).append(' ');
        }
        return scene.append(']').toString();
    }

    private String note() {
        String when = " when " + test(number(3));
        switch (number(4)) {
            case 0:
                return "give " + playName() + " to " + playName() + when;
            case 1:
                return "renew " + playName() + when;
            default:
                return "step " + playName() + (once(2) ? "" : when);
        }
    }

    private String test(int depth) {
        StringBuilder test = new StringBuilder(single(depth));
        while (once(3)) {
            test.append(oneOf(" and ", " or ")).append(single(depth));
        }
        return test.toString();
    }

    private String single(int depth) {
        switch (number(depth > 0 ? 6 : 3)) {
            case 0:
                return "finished " + playName();
            case 1:
                return "same " + playName() + " " + playName();
            case 2:
                return sum(0) + oneOf("<", ">", "=", "<=", ">=") + sum(0);
            case 3:
                return "not " + single(depth - 1);
            case 4:
                return "[" + test(depth - 1) + "]";
            default:
                return sum(depth - 1) + oneOf("<", ">", "=", "<=", ">=") + sum(depth - 1);
        }
    }

    private String sum(int depth) {
        StringBuilder sum = new StringBuilder(value(depth));
        while (once(3)) {
            sum.append(oneOf("+", "-", "*", "/", "*")).append(value(depth));
        }
        return sum.toString();
    }

    private String value(int depth) {
        switch (number(depth > 0 ? 9 : 6)) {
            case 0:
                return Integer.toString(number(12));
            case 1:
                return oneOf("999999", "65536", "32768", "0", "2");
            case 2:
                return "evening";
            case 3:
            case 4:
            case 5:
                return oneOf("size ", "masks ", "steps ") + playName();
            case 6:
                return "-" + value(depth - 1);
            case 7:
                return "(" + sum(depth - 1) + ")";
            default:
                return oneOf("min", "max") + "(" + sum(depth - 1) + "," + sum(depth - 1) + ")";
        }
    }

    /** Most stay as they are; others lose, get or change tokens or bytes. */
    private String damaged(String book) {
        if (!once(4)) {
            return book;
        }
        StringBuilder text = new StringBuilder(book);
        for (int n = 1 + number(3); n > 0 && text.length() > 0; n--) {
            int at = number(text.length());
            switch (number(4)) {
                case 0:
                    text.deleteCharAt(at);
                    break;
                case 1:
                    text.insert(at, " " + oneOf(TOKENS) + " ");
                    break;
                case 2:
                    text.setCharAt(at, (char) number(256));
                    break;
                default:
                    text.setLength(at);
                    break;
            }
        }
        return text.toString();
    }

    /** Deep tests and parts: around the depth of 8. */
    private String deep() {
        StringBuilder text = new StringBuilder("play p is mask x(x); step p when ");
        StringBuilder ends = new StringBuilder();
        boolean inSum = false;
        for (int n = 7 + number(3); n > 0; n--) {
            inSum |= once(4);
            switch (number(inSum ? 3 : 2)) {
                case 0:
                    text.append(inSum ? "-" : "not ");
                    break;
                case 1:
                    text.append(inSum ? "(" : "[");
                    ends.insert(0, inSum ? ")" : inSumEnd(text));
                    break;
                default:
                    text.append("min(2,");
                    ends.insert(0, ")");
                    break;
            }
        }
        String test = inSum ? text + "1" + closeSum(ends.toString()) : text + "1=1" + ends;
        return once(2) ? test + ";" : test + "; play q is " + "[".repeat(6 + number(4));
    }

    private static String inSumEnd(StringBuilder text) {
        return text.length() > 0 ? "]" : "";
    }

    private static String closeSum(String ends) {
        int square = ends.indexOf(']');
        return square < 0 ? ends + "=1" : ends.substring(0, square) + "=1" + ends.substring(square);
    }

    /** Around 400 tokens. */
    private String many() {
        StringBuilder text = new StringBuilder("actor a;");
        int lines = 130 + number(5);
        for (int n = 0; n < lines; n++) {
            text.append(n == 131 && once(2) ? "play p is [a a];" : "step a;");
        }
        return text.toString();
    }

    private String tape() {
        if (once(25)) {
            return deep();
        }
        return once(60) ? many() : damaged(playbook());
    }

    // ---- calls

    private int compare(long seed) {
        MaskPlays got = new MaskPlays();
        Reference want = new Reference();
        int errors = 0;
        int calls = 0;
        for (int books = once(8) ? 6 : 1 + number(2); books > 0; books--) {
            String tape = tape();
            byte[] bytes = tape.getBytes(StandardCharsets.ISO_8859_1);
            if (bytes.length > 2000) {
                continue;
            }
            feedBoth(got, want, bytes);
            int error = want.teach();
            errors = Math.max(errors, error > 0 ? 1 : 0);
            Dues.due("book " + seed + " teach " + tape, got.teach(), error);
            Dues.due("book " + seed + " errorAt " + tape, got.errorAt(), want.errorAt());
            Dues.due("book " + seed + " digest " + tape, got.digest(), want.digest());
            for (int n = 0; n < 60; n++) {
                call("book " + seed + ", call " + calls++ + ": ", got, want);
            }
            Dues.due("book " + seed + " digest behind calls", got.digest(), want.digest());
        }
        return errors;
    }

    private void feedBoth(MaskPlays got, Reference want, byte[] bytes) {
        int before = want.tapeBytes();
        if (!once(8) || before + (bytes.length + 19) / 20 * 20 > 2000) {
            want.trim(0);
            got.trim(0);
            before = 0;
        }
        for (int i = 0; i < bytes.length; i += 20) {
            int[] five = new int[5];
            for (int k = i; k < i + 20; k++) {
                five[(k - i) / 4] = five[(k - i) / 4] << 8 | (k < bytes.length ? bytes[k] & 255 : 0);
            }
            Dues.due("feed", got.feed(five[0], five[1], five[2], five[3], five[4]),
                    want.feed(five[0], five[1], five[2], five[3], five[4]));
        }
        Dues.due("trim", got.trim(before + bytes.length), want.trim(before + bytes.length));
    }

    private int play(int plays) {
        if (once(40)) {
            return new int[] {-1, plays, 12, Integer.MIN_VALUE, Integer.MAX_VALUE}[number(5)];
        }
        return number(Math.max(1, plays));
    }

    private void call(String where, MaskPlays x, Reference y) {
        int a = play(y.plays());
        int b = play(y.plays());
        if (a >= 0 && a < y.plays() && y.canStep(a)) {
            steps++;
            renamings += y.renamedByStep(a) > 0 ? 1 : 0;
            due(where + "renamedByStep", () -> x.renamedByStep(a), () -> y.renamedByStep(a));
        }
        int n = once(30) ? new int[] {-1, 0, 21, 41, Integer.MAX_VALUE, Integer.MIN_VALUE}[number(6)] : 1 + number(20);
        int c = number(40);
        String with = where + "(" + a + ", " + b + ", " + n + ") of ";
        switch (c) {
            case 0: due(with + "sizeOf", () -> x.sizeOf(a), () -> y.sizeOf(a)); break;
            case 1: due(with + "masksIn", () -> x.masksIn(a), () -> y.masksIn(a)); break;
            case 2: due(with + "scenesIn", () -> x.scenesIn(a), () -> y.scenesIn(a)); break;
            case 3: due(with + "mostMasksAround", () -> x.mostMasksAround(a), () -> y.mostMasksAround(a)); break;
            case 4: due(with + "standsIn", () -> x.standsIn(a, b), () -> y.standsIn(a, b)); break;
            case 5: due(with + "stepsDone", () -> x.stepsDone(a), () -> y.stepsDone(a)); break;
            case 6: due(with + "isFinished", () -> bit(x.isFinished(a)), () -> bit(y.isFinished(a))); break;
            case 7: due(with + "canStep", () -> bit(x.canStep(a)), () -> bit(y.canStep(a))); break;
            case 8: due(with + "textLength", () -> x.textLength(a), () -> y.textLength(a)); break;
            case 9: due(with + "letterAt", () -> x.letterAt(a, n), () -> y.letterAt(a, n)); break;
            case 10: due(with + "nextSceneAt", () -> x.nextSceneAt(a), () -> y.nextSceneAt(a)); break;
            case 11:
            case 12: due(with + "renamedByStep", () -> x.renamedByStep(a), () -> y.renamedByStep(a)); break;
            case 13: due(with + "isSame", () -> bit(x.isSame(a, b)), () -> bit(y.isSame(a, b))); break;
            case 14: due(with + "isAsTold", () -> bit(x.isAsTold(a)), () -> bit(y.isAsTold(a))); break;
            case 15:
            case 16: due(with + "renew", () -> x.renew(a), () -> y.renew(a)); break;
            case 17: due(with + "stepsToFinish", () -> x.stepsToFinish(a), () -> y.stepsToFinish(a)); break;
            case 18: due(with + "sizeAfterSteps", () -> x.sizeAfterSteps(a, n), () -> y.sizeAfterSteps(a, n)); break;
            case 19: due(with + "endSame", () -> bit(x.endSame(a, b)), () -> bit(y.endSame(a, b))); break;
            case 20: due(with + "sizeAfterEvenings", () -> x.sizeAfterEvenings(a, n), () -> y.sizeAfterEvenings(a, n)); break;
            case 21: due(with + "eveningsUntilFinished", () -> x.eveningsUntilFinished(a), () -> y.eveningsUntilFinished(a)); break;
            case 22: due(with + "bestGift", () -> x.bestGift(a), () -> y.bestGift(a)); break;
            case 23: due(with + "meanSize", () -> Double.doubleToLongBits(x.meanSize()), () -> Double.doubleToLongBits(y.meanSize())); break;
            case 24: due(with + "counts", () -> x.evenings() * 1000L + x.notesCarriedOut(), () -> y.evenings() * 1000L + y.notesCarriedOut()); break;
            case 25: due(with + "actors", () -> x.actors() * 10000 + x.plays() * 100 + x.notes(), () -> y.actors() * 10000 + y.plays() * 100 + y.notes()); break;
            case 26: due(with + "trim", () -> x.trim(n), () -> y.trim(n)); break;
            case 27: due(with + "feed", () -> x.feed(a, b, n, a, b), () -> y.feed(a, b, n, a, b)); break;
            case 28:
            case 29: int few = once(4) ? n : 1;
                due(with + "passEvenings", () -> x.passEvenings(few), () -> y.passEvenings(few)); break;
            case 30:
            case 31:
            case 32: due(with + "give", () -> x.give(a, b), () -> y.give(a, b)); break;
            default: due(with + "doStep", () -> x.doStep(a), () -> y.doStep(a)); break;
        }
        if (once(4)) {
            Dues.due(where + "digest", x.digest(), y.digest());
        }
    }

    private static long bit(boolean is) {
        return is ? 1 : 0;
    }

    private static void due(String call, Dues.Call got, Dues.Call want) {
        Dues.due(call, Dues.thrownBy(got), Dues.thrownBy(want));
    }
}
