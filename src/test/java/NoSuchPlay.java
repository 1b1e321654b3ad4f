/** The tests of the sentence that stands in most promises: what is thrown if there is no such play. */
final class NoSuchPlay {
    private static final String SENTENCE = "Throws `IndexOutOfBoundsException` if there is no such play";

    private NoSuchPlay() {
    }

    /** A call that is asked of a play. */
    interface Asked {
        long answer(MaskPlays x, int play);
    }

    static void of(String promise, Asked asked) {
        Sentences.of(promise, SENTENCE, () -> dueNoSuchPlay(asked));
    }

    /** On the one side the first and the last play, on the other one what is next to them. */
    private static void dueNoSuchPlay(Asked asked) {
        MaskPlays x = new MaskPlays();
        dueNone(x, asked);
        Dues.teach(x, "actor a; actor b;");
        dueNone(x, asked);
        for (int plays : new int[] {1, 12, 2}) {
            StringBuilder book = new StringBuilder("actor a; ");
            for (int n = 0; n < plays; n++) {
                book.append("play p").append(n).append(" is [mask x(x) a]; ");
            }
            Dues.due("teach", Dues.teach(x, book.toString()), 0);
            dueNone(x, asked);
            Dues.due("teach with an error", Dues.teach(x, book + "play q is mask a(a);") != 0, true);
            dueNone(x, asked);
            for (int play = 0; play < plays; play += Math.max(1, plays - 1)) {
                int known = play;
                String thrown = Dues.thrownBy(() -> asked.answer(x, known));
                Dues.due(play + " of " + plays + " plays throws " + thrown, thrown.startsWith("nothing"), true);
            }
        }
    }

    private static void dueNone(MaskPlays x, Asked asked) {
        long before = x.digest();
        int plays = x.plays();
        for (int play : new int[] {-1, plays, plays + 1, 12, 13, Integer.MIN_VALUE, Integer.MAX_VALUE}) {
            if (play < 0 || play >= plays) {
                Dues.dueThrow(play + " of " + plays + " plays", IndexOutOfBoundsException.class,
                        () -> asked.answer(x, play));
            }
        }
        Dues.due("digest", x.digest(), before);
    }
}
