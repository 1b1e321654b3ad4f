/** The bounds of the calls, promise by promise: 1 to 11, the language and the playbook. */
final class BoundsOfCalls {
    private static final String ID = "play i is mask x(x); ";
    private static final int BLANKS = 0x20202020;

    private BoundsOfCalls() {
    }

    static void run() {
        Sentences.of("Promise 1", "Creates a playbook without actors, plays and notes, ahead of the evening 0.",
                BoundsOfCalls::aNewPlaybook);
        Sentences.of("Promise 2", "Appends twenty bytes to the tape: the four bytes of each number, the highest one first.",
                BoundsOfCalls::feeding);
        Sentences.of("Promise 2", "- `a`: bytes 1 to 4", () -> bytesOf(0));
        Sentences.of("Promise 2", "- `b`: bytes 5 to 8", () -> bytesOf(1));
        Sentences.of("Promise 2", "- `c`: bytes 9 to 12", () -> bytesOf(2));
        Sentences.of("Promise 2", "- `d`: bytes 13 to 16", () -> bytesOf(3));
        Sentences.of("Promise 2", "- `e`: bytes 17 to 20", () -> bytesOf(4));
        Sentences.of("Promise 2", "Returns the number of bytes of the tape.", BoundsOfCalls::whatFeedReturns);
        Sentences.of("Promise 2", "Throws `IllegalStateException` if there would be more than 2000",
                BoundsOfCalls::feedingTooMuch);
        Sentences.of("Promise 3", "Shortens the tape to its first bytes.", BoundsOfCalls::trimming);
        Sentences.of("Promise 3", "Returns n.", BoundsOfCalls::whatTrimReturns);
        Sentences.of("Promise 3", "Throws `IllegalArgumentException` if n is not 0 to the number of bytes of the tape",
                BoundsOfCalls::trimmingTooMuch);
        Sentences.of("Promise 4", "Reads the tape as a playbook, in the place of all that was told before; all begins anew,"
                + " evenings and steps, too.", BoundsOfCalls::teaching);
        Sentences.of("Promise 4", "If it has an error, all stays (but the tape is empty).", BoundsOfCalls::withAnError);
        Sentences.of("Promise 4", "Returns 0, or the error, 1 to 5.", BoundsOfCalls::errors);
        Sentences.of("Promise 5", "Returns the position of the error of the latest teach(); -1 if it had none, or there was"
                + " none.", BoundsOfCalls::positionsOfErrors);
        Sentences.of("Promise 6", "Returns how many actors there are.", () -> howManyThereAre(0));
        Sentences.of("Promise 7", "Returns how many plays there are.", () -> howManyThereAre(1));
        Sentences.of("Promise 8", "Returns how many notes there are.", () -> howManyThereAre(2));
        Sentences.of("Promise 9", "Returns how many evenings went by.", BoundsOfCalls::eveningsThatWentBy);
        Sentences.of("Promise 10", "Returns how many notes were carried out in all.", BoundsOfCalls::notesCarriedOut);
        Sentences.of("Promise 11", "Returns how many bytes the tape has.", BoundsOfCalls::tapeBytes);
    }

    // ---- the language

    private static void aNewPlaybook() {
        MaskPlays x = new MaskPlays();
        Dues.due("actors", x.actors(), 0);
        Dues.due("plays", x.plays(), 0);
        Dues.due("notes", x.notes(), 0);
        Dues.due("evenings", x.evenings(), 0);
        Dues.due("notesCarriedOut", x.notesCarriedOut(), 0);
        Dues.due("tapeBytes", x.tapeBytes(), 0);
        Dues.due("errorAt", x.errorAt(), -1);
        Dues.due("meanSize", x.meanSize() == 0.0, true);
        Dues.dueThrow("sizeOf", IndexOutOfBoundsException.class, () -> x.sizeOf(0));
        Dues.dueThrow("standsIn", IndexOutOfBoundsException.class, () -> x.standsIn(0, 0));
        Dues.due("passEvenings", x.passEvenings(1), 0);
        Dues.due("evenings", x.evenings(), 1);
        Dues.due("passEvenings", x.passEvenings(20), 0);
        Dues.due("evenings", x.evenings(), 21);
        Dues.due("evenings of another one", new MaskPlays().evenings(), 0);
    }

    private static void feeding() {
        MaskPlays x = new MaskPlays();
        // "actor abcdefghij;pla", "y qrstuv1234 is mask", " z(z);  actor k;" and blanks
        x.feed(0x6163746f, 0x72206162, 0x63646566, 0x6768696a, 0x3b706c61);
        x.feed(0x79207172, 0x73747576, 0x31323334, 0x20697320, 0x6d61736b);
        x.feed(0x207a287a, 0x293b2020, 0x6163746f, 0x72206b3b, BLANKS);
        Dues.due("teach", x.teach(), 0);
        Dues.due("actors", x.actors(), 2);
        Dues.dueText(x, 0, "mask z(z)");
    }

    private static void bytesOf(int number) {
        for (int place = 4 * number; place < 4 * number + 4; place++) {
            dueByteAt(place, '!');
            dueByteAt(place, 0);
            dueByteAt(place, 128);
            dueByteAt(place, 255);
        }
    }

    private static void whatFeedReturns() {
        MaskPlays y = new MaskPlays();
        for (int n = 1; n <= 100; n++) {
            Dues.due("feed " + n, y.feed(BLANKS, BLANKS, BLANKS, BLANKS, BLANKS), 20 * n);
        }
        y.trim(3);
        Dues.due("feed behind trim", y.feed(BLANKS, BLANKS, BLANKS, BLANKS, BLANKS), 23);
        y.teach();
        Dues.due("feed behind teach", y.feed(BLANKS, BLANKS, BLANKS, BLANKS, BLANKS), 20);
    }

    /** All bytes are blanks but this one, with which no token begins. */
    private static void dueByteAt(int place, int sign) {
        int[] numbers = {BLANKS, BLANKS, BLANKS, BLANKS, BLANKS};
        int shift = 24 - place % 4 * 8;
        numbers[place / 4] = BLANKS & ~(255 << shift) | sign << shift;
        MaskPlays x = new MaskPlays();
        x.feed(numbers[0], numbers[1], numbers[2], numbers[3], numbers[4]);
        Dues.due("teach with " + sign + " at " + place, x.teach(), 1);
        Dues.due("errorAt with " + sign, x.errorAt(), place);
        x.feed(BLANKS, BLANKS, BLANKS, BLANKS, BLANKS);
        x.feed(numbers[0], numbers[1], numbers[2], numbers[3], numbers[4]);
        Dues.due("teach with " + sign + " at " + (20 + place), x.teach(), 1);
        Dues.due("errorAt with " + sign, x.errorAt(), 20 + place);
    }

    private static void feedingTooMuch() {
        for (int bytes = 1979; bytes <= 2000; bytes++) {
            MaskPlays x = new MaskPlays();
            Dues.feed(x, " ".repeat(bytes));
            if (bytes <= 1980) {
                Dues.due("feed behind " + bytes, x.feed(BLANKS, BLANKS, BLANKS, BLANKS, BLANKS), bytes + 20);
            } else {
                Dues.dueThrow("feed behind " + bytes, IllegalStateException.class, () -> x.feed(1, 1, 1, 1, 1));
                Dues.due("tapeBytes", x.tapeBytes(), bytes);
                Dues.due("teach", x.teach(), 0);
                Dues.due("feed behind teach", x.feed(BLANKS, BLANKS, BLANKS, BLANKS, BLANKS), 20);
            }
        }
    }

    private static void trimming() {
        for (int kept : new int[] {0, 8, 17, 26}) {
            MaskPlays x = new MaskPlays();
            Dues.feed(x, "actor a; actor b; actor c;");
            Dues.due("trim", x.trim(kept), kept);
            Dues.due("tapeBytes", x.tapeBytes(), kept);
            Dues.due("teach", x.teach(), 0);
            Dues.due("actors", x.actors(), (kept + 1) / 9);
        }
        MaskPlays cut = new MaskPlays();
        Dues.feed(cut, "actor abc;");
        cut.trim(7);
        Dues.feed(cut, "d; play p is ad;");
        Dues.due("teach", cut.teach(), 0);
        Dues.dueText(cut, 0, "ad");
    }

    private static void whatTrimReturns() {
        MaskPlays y = new MaskPlays();
        Dues.feed(y, " ".repeat(2000));
        for (int n : new int[] {2000, 1999, 20, 19, 1, 0, 0}) {
            Dues.due("trim", y.trim(n), n);
        }
    }

    private static void trimmingTooMuch() {
        for (int bytes : new int[] {0, 1, 20, 1999, 2000}) {
            MaskPlays x = new MaskPlays();
            Dues.feed(x, " ".repeat(bytes));
            for (int n : new int[] {-1, bytes + 1, 2001, Integer.MIN_VALUE, Integer.MAX_VALUE}) {
                Dues.dueThrow("trim " + n + " of " + bytes, IllegalArgumentException.class, () -> x.trim(n));
            }
            Dues.due("trim all", x.trim(bytes), bytes);
            Dues.due("tapeBytes", x.tapeBytes(), bytes);
            Dues.due("trim 0", x.trim(0), 0);
            Dues.dueThrow("trim 1 of 0", IllegalArgumentException.class, () -> x.trim(1));
        }
    }

    private static void teaching() {
        String book = "actor a; " + ID + "play p is [i a]; step p; renew p when evening=3;";
        MaskPlays x = Dues.told(book);
        long begun = x.digest();
        x.passEvenings(20);
        x.renew(1);
        x.doStep(1);
        Dues.due("teach the same", Dues.teach(x, book), 0);
        Dues.due("stepsDone", x.stepsDone(1), 0);
        Dues.due("evenings", x.evenings(), 0);
        Dues.due("notesCarriedOut", x.notesCarriedOut(), 0);
        Dues.due("digest", x.digest(), begun);
        Dues.due("teach less", Dues.teach(x, "actor p; play a is [p p];"), 0);
        Dues.due("actors", x.actors(), 1);
        Dues.due("plays", x.plays(), 1);
        Dues.due("notes", x.notes(), 0);
        Dues.dueThrow("sizeOf", IndexOutOfBoundsException.class, () -> x.sizeOf(1));
        Dues.due("passEvenings", x.passEvenings(1), 0);
        Dues.due("teach nothing", x.teach(), 0);
        Dues.due("digest", x.digest(), new MaskPlays().digest());
        oneBehindAnother();
    }

    /** Each with notes that have long tests, with an error among them. */
    private static void oneBehindAnother() {
        MaskPlays x = new MaskPlays();
        for (int n = 0; n < 12; n++) {
            int even = n % 2;
            String sum = "1" + "+1".repeat(60 + even);
            String book = "actor a; play p is a; play q is [a a]; " + (even == 0 ? "" : "play r is mask x(x); ")
                    + "give p to q when " + sum + "=" + (61 + even) + "; give q to p when " + sum + "=62;";
            Dues.due("teach " + n, Dues.teach(x, book), 0);
            Dues.due("plays", x.plays(), 2 + even);
            Dues.due("meanSize", x.meanSize() == 2.0, true);
            Dues.due("passEvenings", x.passEvenings(1), 1 + even);
            Dues.due("sizeOf q", x.sizeOf(1), 5);
            Dues.due("sizeOf p", x.sizeOf(0), even == 0 ? 1 : 7);
            Dues.due("teach with an error", Dues.teach(x, book + " renew p when " + sum + "=r;"), 1);
        }
    }

    private static final String[] WRONG = {"actor b; play q is b", "actor b; actor b;", "actor b; step b;",
        "actor b; " + "step q; ".repeat(17), "actor b; play q is [" + "b ".repeat(76) + "];"};

    private static void withAnError() {
        MaskPlays x = Dues.told("actor a; " + ID + "play p is [i a]; step p; renew p when evening=1;");
        x.passEvenings(3);
        x.give(0, 1);
        for (String wrong : WRONG) {
            long before = x.digest();
            Dues.due(wrong + " has an error", Dues.teach(x, wrong) != 0, true);
            Dues.due("tapeBytes", x.tapeBytes(), 0);
            Dues.due("digest", x.digest(), before);
            // Also what was told stays, and the notes with their tests.
            Dues.due("renew", x.renew(1), 4);
            Dues.due("passEvenings", x.passEvenings(1), 1);
        }
    }

    private static void errors() {
        Dues.due("nothing", new MaskPlays().teach(), 0);
        Dues.due("an actor", Dues.teach(new MaskPlays(), "actor a;"), 0);
        int[] errors = {1, 2, 3, 3, 5};
        for (int n = 0; n < WRONG.length; n++) {
            Dues.due(WRONG[n], Dues.teach(new MaskPlays(), WRONG[n]), errors[n]);
        }
        Dues.due("17 notes", Dues.teach(new MaskPlays(), ID + "step i; ".repeat(17)), 4);
        Dues.due("16 notes", Dues.teach(new MaskPlays(), ID + "step i; ".repeat(16)), 0);
    }

    private static void positionsOfErrors() {
        MaskPlays x = new MaskPlays();
        Dues.due("errorAt ahead of all", x.errorAt(), -1);
        Dues.feed(x, "!");
        Dues.due("errorAt ahead of teach", x.errorAt(), -1);
        x.teach();
        Dues.due("errorAt", x.errorAt(), 0);
        Dues.feed(x, "actor a;");
        Dues.due("errorAt of the latest teach", x.errorAt(), 0);
        x.teach();
        Dues.due("errorAt without one", x.errorAt(), -1);
        int[] places = {20, 15, 14, 14, 173};
        for (int n = 0; n < WRONG.length; n++) {
            Dues.teach(x, WRONG[n]);
            Dues.due("errorAt of " + WRONG[n], x.errorAt(), places[n]);
        }
        x.passEvenings(1);
        Dues.due("errorAt behind an evening", x.errorAt(), 173);
        Dues.teach(x, " ".repeat(1999) + "!");
        Dues.due("errorAt the last byte", x.errorAt(), 1999);
        Dues.teach(x, " ".repeat(1995) + "actor");
        Dues.due("errorAt the end", x.errorAt(), 2000);
        x.teach();
        Dues.due("errorAt of nothing", x.errorAt(), -1);
    }

    // ---- the playbook

    /** Kind 0 are actors, 1 plays, 2 notes. */
    private static void howManyThereAre(int kind) {
        String line = new String[] {"actor a", "play p", "give p0 to p0 when evening="}[kind];
        String end = new String[] {"; ", " is mask x(x); ", "; "}[kind];
        int most = new int[] {8, 12, 16}[kind];
        StringBuilder book = new StringBuilder(kind == 2 ? "play p0 is mask x(x); " : "");
        for (int n = 0; n <= most; n++) {
            Dues.due("of " + n, number(Dues.told(book.toString()), kind), n);
            book.append(line).append(n).append(end);
        }
        MaskPlays x = Dues.told("actor a; play p is a;  step p;");
        Dues.due("one too many", Dues.teach(x, book.toString()), 4);
        Dues.due("as many as before", number(x, kind), 1);
        x.passEvenings(1);
        Dues.due("behind an evening", number(x, kind), 1);
        x.teach();
        Dues.due("of nothing", number(x, kind), 0);
    }

    private static int number(MaskPlays x, int kind) {
        return kind == 0 ? x.actors() : kind == 1 ? x.plays() : x.notes();
    }

    private static void eveningsThatWentBy() {
        MaskPlays x = Dues.told("actor a; " + ID + "play p is [i [i [i a]]]; step p; step p when evening=0;");
        Dues.due("evenings", x.evenings(), 0);
        x.sizeAfterEvenings(0, 20);
        x.eveningsUntilFinished(1);
        x.doStep(1);
        Dues.due("evenings", x.evenings(), 0);
        x.passEvenings(1);
        Dues.due("evenings", x.evenings(), 1);
        x.passEvenings(20);
        Dues.due("evenings", x.evenings(), 21);
        Dues.dueThrow("passEvenings", IllegalArgumentException.class, () -> x.passEvenings(21));
        Dues.due("evenings", x.evenings(), 21);
    }

    private static void notesCarriedOut() {
        MaskPlays y = Dues.told("actor a; " + ID + "play p is [i [i [i a]]]; step p; step p when evening=0;");
        Dues.due("notesCarriedOut", y.notesCarriedOut(), 0);
        y.sizeAfterEvenings(1, 20);
        y.doStep(1);
        y.renew(1);
        Dues.due("by hand none is", y.notesCarriedOut(), 0);
        y.passEvenings(1);
        Dues.due("notesCarriedOut", y.notesCarriedOut(), 2);
        y.passEvenings(1);
        Dues.due("notesCarriedOut", y.notesCarriedOut(), 3);
        y.passEvenings(20);
        Dues.due("notesCarriedOut", y.notesCarriedOut(), 3);
        MaskPlays most = Dues.told("actor a; play p is a; " + "give p to p when size p=1; renew p when 1=1; ".repeat(8));
        most.passEvenings(20);
        Dues.due("16 in each of 20 evenings", most.notesCarriedOut(), 320);
    }

    private static void tapeBytes() {
        MaskPlays x = new MaskPlays();
        Dues.due("tapeBytes", x.tapeBytes(), 0);
        for (int n = 1; n <= 100; n++) {
            x.feed(BLANKS, BLANKS, BLANKS, BLANKS, BLANKS);
            Dues.due("tapeBytes", x.tapeBytes(), 20 * n);
        }
        Dues.dueThrow("feed", IllegalStateException.class, () -> x.feed(1, 1, 1, 1, 1));
        Dues.due("tapeBytes", x.tapeBytes(), 2000);
        x.trim(1);
        Dues.due("tapeBytes", x.tapeBytes(), 1);
        x.trim(0);
        Dues.due("tapeBytes", x.tapeBytes(), 0);
        Dues.feed(x, "!");
        x.teach();
        Dues.due("tapeBytes behind teach", x.tapeBytes(), 0);
    }
}
