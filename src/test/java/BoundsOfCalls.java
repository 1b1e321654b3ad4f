/** The bounds of the calls, promise by promise: 1 to 28, up to what is done by hand. */
final class BoundsOfCalls {
    private static final String NO_PLAY = "Throws `IndexOutOfBoundsException` if there is no such play";
    private static final String ID = "play i is mask x(x); ";
    private static final int BLANKS = 0x20202020;
    /** 75 parts, and 74 parts: together with a scene they are 150. */
    private static final String ODD = "[" + "a ".repeat(38) + "]";
    private static final String EVEN = "mask u([" + "a ".repeat(37) + "])";

    private BoundsOfCalls() {
    }

    /** A call that is asked of a play. */
    interface Asked {
        long answer(MaskPlays x, int play);
    }

    static void run() {
        aNewPlaybook();
        feeding();
        trimming();
        teaching();
        theError();
        howManyThereAre();
        howManyWentBy();
        tapeBytes();
        counting();
        mostMasksAround();
        standing();
        stepsDone();
        finished();
        texts();
        nextScenes();
        renamings();
        sameness();
        stepsByHand();
        givingByHand();
        renewingByHand();
        Sentences.end();
    }

    // ---- the language

    private static void aNewPlaybook() {
        Sentences.of("Promise 1", "Creates a playbook without actors, plays and notes, ahead of the evening 0.");
        MaskPlays x = new MaskPlays();
        Dues.due("actors", x.actors(), 0);
        Dues.due("plays", x.plays(), 0);
        Dues.due("notes", x.notes(), 0);
        Dues.due("evenings", x.evenings(), 0);
        Dues.due("notesCarriedOut", x.notesCarriedOut(), 0);
        Dues.due("tapeBytes", x.tapeBytes(), 0);
        Dues.due("errorAt", x.errorAt(), -1);
        Dues.due("meanSize", x.meanSize() == 0.0, true);
        Dues.dueThrow("sizeOf", IndexOutOfBoundsException.class, () -> x.sizeOf(0));
        Dues.dueThrow("standsIn", IndexOutOfBoundsException.class, () -> x.standsIn(0, 0));
        Dues.due("passEvenings", x.passEvenings(1), 0);
        Dues.due("evenings", x.evenings(), 1);
        Dues.due("passEvenings", x.passEvenings(20), 0);
        Dues.due("evenings", x.evenings(), 21);
        Dues.due("evenings of another one", new MaskPlays().evenings(), 0);
    }

    private static void feeding() {
        Sentences.of("Promise 2", "Appends twenty bytes to the tape: the four bytes of each number, the highest one first.");
        MaskPlays x = new MaskPlays();
        // "actor abcdefghij;pla", "y qrstuv1234 is mask", " z(z);  actor k;" and blanks
        x.feed(0x6163746f, 0x72206162, 0x63646566, 0x6768696a, 0x3b706c61);
        x.feed(0x79207172, 0x73747576, 0x31323334, 0x20697320, 0x6d61736b);
        x.feed(0x207a287a, 0x293b2020, 0x6163746f, 0x72206b3b, BLANKS);
        Dues.due("teach", x.teach(), 0);
        Dues.due("actors", x.actors(), 2);
        Dues.dueText(x, 0, "mask z(z)");
        String[] parameters = {"- `a`: bytes 1 to 4", "- `b`: bytes 5 to 8", "- `c`: bytes 9 to 12",
            "- `d`: bytes 13 to 16", "- `e`: bytes 17 to 20"};
        for (int n = 0; n < parameters.length; n++) {
            Sentences.of("Promise 2", parameters[n]);
            for (int place = 4 * n; place < 4 * n + 4; place++) {
                dueByteAt(place, '!');
                dueByteAt(place, 0);
                dueByteAt(place, 128);
                dueByteAt(place, 255);
            }
        }
        Sentences.of("Promise 2", "Returns the number of bytes of the tape.");
        MaskPlays y = new MaskPlays();
        for (int n = 1; n <= 100; n++) {
            Dues.due("feed " + n, y.feed(BLANKS, BLANKS, BLANKS, BLANKS, BLANKS), 20 * n);
        }
        y.trim(3);
        Dues.due("feed behind trim", y.feed(BLANKS, BLANKS, BLANKS, BLANKS, BLANKS), 23);
        y.teach();
        Dues.due("feed behind teach", y.feed(BLANKS, BLANKS, BLANKS, BLANKS, BLANKS), 20);
        feedingTooMuch();
    }

    /** All bytes are blanks but this one, with which no token begins. */
    private static void dueByteAt(int place, int sign) {
        int[] numbers = {BLANKS, BLANKS, BLANKS, BLANKS, BLANKS};
        int shift = 24 - place % 4 * 8;
        numbers[place / 4] = BLANKS & ~(255 << shift) | sign << shift;
        MaskPlays x = new MaskPlays();
        x.feed(numbers[0], numbers[1], numbers[2], numbers[3], numbers[4]);
        Dues.due("teach with " + sign + " at " + place, x.teach(), 1);
        Dues.due("errorAt with " + sign, x.errorAt(), place);
        x.feed(BLANKS, BLANKS, BLANKS, BLANKS, BLANKS);
        x.feed(numbers[0], numbers[1], numbers[2], numbers[3], numbers[4]);
        Dues.due("teach with " + sign + " at " + (20 + place), x.teach(), 1);
        Dues.due("errorAt with " + sign, x.errorAt(), 20 + place);
    }

    private static void feedingTooMuch() {
        Sentences.of("Promise 2", "Throws `IllegalStateException` if there would be more than 2000");
        for (int bytes = 1979; bytes <= 2000; bytes++) {
            MaskPlays x = new MaskPlays();
            Dues.feed(x, " ".repeat(bytes));
            if (bytes <= 1980) {
                Dues.due("feed behind " + bytes, x.feed(BLANKS, BLANKS, BLANKS, BLANKS, BLANKS), bytes + 20);
            } else {
                Dues.dueThrow("feed behind " + bytes, IllegalStateException.class, () -> x.feed(1, 1, 1, 1, 1));
                Dues.due("tapeBytes", x.tapeBytes(), bytes);
                Dues.due("teach", x.teach(), 0);
                Dues.due("feed behind teach", x.feed(BLANKS, BLANKS, BLANKS, BLANKS, BLANKS), 20);
            }
        }
    }

    private static void trimming() {
        Sentences.of("Promise 3", "Shortens the tape to its first bytes.");
        for (int kept : new int[] {0, 8, 17, 26}) {
            MaskPlays x = new MaskPlays();
            Dues.feed(x, "actor a; actor b; actor c;");
            Dues.due("trim", x.trim(kept), kept);
            Dues.due("tapeBytes", x.tapeBytes(), kept);
            Dues.due("teach", x.teach(), 0);
            Dues.due("actors", x.actors(), (kept + 1) / 9);
        }
        MaskPlays cut = new MaskPlays();
        Dues.feed(cut, "actor abc;");
        cut.trim(7);
        Dues.feed(cut, "d; play p is ad;");
        Dues.due("teach", cut.teach(), 0);
        Dues.dueText(cut, 0, "ad");
        Sentences.of("Promise 3", "Returns n.");
        MaskPlays y = new MaskPlays();
        Dues.feed(y, " ".repeat(2000));
        for (int n : new int[] {2000, 1999, 20, 19, 1, 0, 0}) {
            Dues.due("trim", y.trim(n), n);
        }
        Sentences.of("Promise 3", "Throws `IllegalArgumentException` if n is not 0 to the number of bytes of the tape");
        for (int bytes : new int[] {0, 1, 20, 1999, 2000}) {
            MaskPlays x = new MaskPlays();
            Dues.feed(x, " ".repeat(bytes));
            for (int n : new int[] {-1, bytes + 1, 2001, Integer.MIN_VALUE, Integer.MAX_VALUE}) {
                Dues.dueThrow("trim " + n + " of " + bytes, IllegalArgumentException.class, () -> x.trim(n));
            }
            Dues.due("trim all", x.trim(bytes), bytes);
            Dues.due("tapeBytes", x.tapeBytes(), bytes);
            Dues.due("trim 0", x.trim(0), 0);
            Dues.dueThrow("trim 1 of 0", IllegalArgumentException.class, () -> x.trim(1));
        }
    }

    private static void teaching() {
        Sentences.of("Promise 4", "Reads the tape as a playbook, in the place of all that was told before; all begins anew,"
                + " evenings and steps, too.");
        String book = "actor a; " + ID + "play p is [i a]; step p; renew p when evening=3;";
        MaskPlays x = Dues.told(book);
        long begun = x.digest();
        x.passEvenings(20);
        x.renew(1);
        x.doStep(1);
        Dues.due("teach the same", Dues.teach(x, book), 0);
        Dues.due("stepsDone", x.stepsDone(1), 0);
        Dues.due("evenings", x.evenings(), 0);
        Dues.due("notesCarriedOut", x.notesCarriedOut(), 0);
        Dues.due("digest", x.digest(), begun);
        Dues.due("teach less", Dues.teach(x, "actor p; play a is [p p];"), 0);
        Dues.due("actors", x.actors(), 1);
        Dues.due("plays", x.plays(), 1);
        Dues.due("notes", x.notes(), 0);
        Dues.dueThrow("sizeOf", IndexOutOfBoundsException.class, () -> x.sizeOf(1));
        Dues.due("passEvenings", x.passEvenings(1), 0);
        Dues.due("teach nothing", x.teach(), 0);
        Dues.due("digest", x.digest(), new MaskPlays().digest());
        oneBehindAnother();
        withAnError();
    }

    /** Each with notes that have long tests, with an error among them. */
    private static void oneBehindAnother() {
        MaskPlays x = new MaskPlays();
        for (int n = 0; n < 12; n++) {
            int even = n % 2;
            String sum = "1" + "+1".repeat(60 + even);
            String book = "actor a; play p is a; play q is [a a]; " + (even == 0 ? "" : "play r is mask x(x); ")
                    + "give p to q when " + sum + "=" + (61 + even) + "; give q to p when " + sum + "=62;";
            Dues.due("teach " + n, Dues.teach(x, book), 0);
            Dues.due("plays", x.plays(), 2 + even);
            Dues.due("meanSize", x.meanSize() == 2.0, true);
            Dues.due("passEvenings", x.passEvenings(1), 1 + even);
            Dues.due("sizeOf q", x.sizeOf(1), 5);
            Dues.due("sizeOf p", x.sizeOf(0), even == 0 ? 1 : 7);
            Dues.due("teach with an error", Dues.teach(x, book + " renew p when " + sum + "=r;"), 1);
        }
    }

    private static final String[] WRONG = {"actor b; play q is b", "actor b; actor b;", "actor b; step b;",
        "actor b; " + "step q; ".repeat(17), "actor b; play q is [" + "b ".repeat(76) + "];"};

    private static void withAnError() {
        Sentences.of("Promise 4", "If it has an error, all stays (but the tape is empty).");
        MaskPlays x = Dues.told("actor a; " + ID + "play p is [i a]; step p; renew p when evening=1;");
        x.passEvenings(3);
        x.give(0, 1);
        for (String wrong : WRONG) {
            long before = x.digest();
            Dues.due(wrong + " has an error", Dues.teach(x, wrong) != 0, true);
            Dues.due("tapeBytes", x.tapeBytes(), 0);
            Dues.due("digest", x.digest(), before);
            // Also what was told stays, and the notes with their tests.
            Dues.due("renew", x.renew(1), 4);
            Dues.due("passEvenings", x.passEvenings(1), 1);
        }
        Sentences.of("Promise 4", "Returns 0, or the error, 1 to 5.");
        Dues.due("nothing", new MaskPlays().teach(), 0);
        Dues.due("an actor", Dues.teach(new MaskPlays(), "actor a;"), 0);
        int[] errors = {1, 2, 3, 3, 5};
        for (int n = 0; n < WRONG.length; n++) {
            Dues.due(WRONG[n], Dues.teach(new MaskPlays(), WRONG[n]), errors[n]);
        }
        Dues.due("17 notes", Dues.teach(new MaskPlays(), ID + "step i; ".repeat(17)), 4);
        Dues.due("16 notes", Dues.teach(new MaskPlays(), ID + "step i; ".repeat(16)), 0);
    }

    private static void theError() {
        Sentences.of("Promise 5", "Returns the position of the error of the latest teach(); -1 if it had none, or there was"
                + " none.");
        MaskPlays x = new MaskPlays();
        Dues.due("errorAt ahead of all", x.errorAt(), -1);
        Dues.feed(x, "!");
        Dues.due("errorAt ahead of teach", x.errorAt(), -1);
        x.teach();
        Dues.due("errorAt", x.errorAt(), 0);
        Dues.feed(x, "actor a;");
        Dues.due("errorAt of the latest teach", x.errorAt(), 0);
        x.teach();
        Dues.due("errorAt without one", x.errorAt(), -1);
        int[] places = {20, 15, 14, 14, 173};
        for (int n = 0; n < WRONG.length; n++) {
            Dues.teach(x, WRONG[n]);
            Dues.due("errorAt of " + WRONG[n], x.errorAt(), places[n]);
        }
        x.passEvenings(1);
        Dues.due("errorAt behind an evening", x.errorAt(), 173);
        Dues.teach(x, " ".repeat(1999) + "!");
        Dues.due("errorAt the last byte", x.errorAt(), 1999);
        Dues.teach(x, " ".repeat(1995) + "actor");
        Dues.due("errorAt the end", x.errorAt(), 2000);
        x.teach();
        Dues.due("errorAt of nothing", x.errorAt(), -1);
    }

    // ---- the playbook

    private static void howManyThereAre() {
        String[] lines = {"actor a", "play p", "give p0 to p0 when evening="};
        String[] ends = {"; ", " is mask x(x); ", "; "};
        int[] most = {8, 12, 16};
        for (int kind = 0; kind < 3; kind++) {
            String name = new String[] {"actors", "plays", "notes"}[kind];
            Sentences.of("Promise " + (6 + kind), "Returns how many " + name + " there are.");
            StringBuilder book = new StringBuilder(kind == 2 ? "play p0 is mask x(x); " : "");
            for (int n = 0; n <= most[kind]; n++) {
                Dues.due(name, number(Dues.told(book.toString()), kind), n);
                book.append(lines[kind]).append(n).append(ends[kind]);
            }
            MaskPlays x = Dues.told("actor a; play p is a;  step p;");
            Dues.due("one too many", Dues.teach(x, book.toString()), 4);
            Dues.due(name + " are as before", number(x, kind), 1);
            x.passEvenings(1);
            Dues.due(name + " behind an evening", number(x, kind), 1);
            x.teach();
            Dues.due(name + " of nothing", number(x, kind), 0);
        }
    }

    private static int number(MaskPlays x, int kind) {
        return kind == 0 ? x.actors() : kind == 1 ? x.plays() : x.notes();
    }

    private static void howManyWentBy() {
        Sentences.of("Promise 9", "Returns how many evenings went by.");
        MaskPlays x = Dues.told("actor a; " + ID + "play p is [i [i [i a]]]; step p; step p when evening=0;");
        Dues.due("evenings", x.evenings(), 0);
        x.sizeAfterEvenings(0, 20);
        x.eveningsUntilFinished(1);
        x.doStep(1);
        Dues.due("evenings", x.evenings(), 0);
        x.passEvenings(1);
        Dues.due("evenings", x.evenings(), 1);
        x.passEvenings(20);
        Dues.due("evenings", x.evenings(), 21);
        Dues.dueThrow("passEvenings", IllegalArgumentException.class, () -> x.passEvenings(21));
        Dues.due("evenings", x.evenings(), 21);
        Sentences.of("Promise 10", "Returns how many notes were carried out in all.");
        MaskPlays y = Dues.told("actor a; " + ID + "play p is [i [i [i a]]]; step p; step p when evening=0;");
        Dues.due("notesCarriedOut", y.notesCarriedOut(), 0);
        y.sizeAfterEvenings(1, 20);
        y.doStep(1);
        y.renew(1);
        Dues.due("by hand none is", y.notesCarriedOut(), 0);
        y.passEvenings(1);
        Dues.due("notesCarriedOut", y.notesCarriedOut(), 2);
        y.passEvenings(1);
        Dues.due("notesCarriedOut", y.notesCarriedOut(), 3);
        y.passEvenings(20);
        Dues.due("notesCarriedOut", y.notesCarriedOut(), 3);
        MaskPlays most = Dues.told("actor a; play p is a; " + "give p to p when size p=1; renew p when 1=1; ".repeat(8));
        most.passEvenings(20);
        Dues.due("16 in each of 20 evenings", most.notesCarriedOut(), 320);
    }

    private static void tapeBytes() {
        Sentences.of("Promise 11", "Returns how many bytes the tape has.");
        MaskPlays x = new MaskPlays();
        Dues.due("tapeBytes", x.tapeBytes(), 0);
        for (int n = 1; n <= 100; n++) {
            x.feed(BLANKS, BLANKS, BLANKS, BLANKS, BLANKS);
            Dues.due("tapeBytes", x.tapeBytes(), 20 * n);
        }
        Dues.dueThrow("feed", IllegalStateException.class, () -> x.feed(1, 1, 1, 1, 1));
        Dues.due("tapeBytes", x.tapeBytes(), 2000);
        x.trim(1);
        Dues.due("tapeBytes", x.tapeBytes(), 1);
        x.trim(0);
        Dues.due("tapeBytes", x.tapeBytes(), 0);
        Dues.feed(x, "!");
        x.teach();
        Dues.due("tapeBytes behind teach", x.tapeBytes(), 0);
    }

    // ---- no such play

    /** On the one side the first and the last play, on the other one what is next to them. */
    static void dueNoSuchPlay(String promise, Asked asked) {
        Sentences.of(promise, NO_PLAY);
        MaskPlays x = new MaskPlays();
        dueNone(x, asked);
        Dues.teach(x, "actor a; actor b;");
        dueNone(x, asked);
        for (int plays : new int[] {1, 12, 2}) {
            StringBuilder book = new StringBuilder("actor a; ");
            for (int n = 0; n < plays; n++) {
                book.append("play p").append(n).append(" is [mask x(x) a]; ");
            }
            Dues.due("teach", Dues.teach(x, book.toString()), 0);
            dueNone(x, asked);
            Dues.due("teach with an error", Dues.teach(x, book + "play q is mask a(a);") != 0, true);
            dueNone(x, asked);
            for (int play = 0; play < plays; play += Math.max(1, plays - 1)) {
                int known = play;
                String thrown = Dues.thrownBy(() -> asked.answer(x, known));
                Dues.due(play + " of " + plays + " plays throws " + thrown, thrown.startsWith("nothing"), true);
            }
        }
    }

    private static void dueNone(MaskPlays x, Asked asked) {
        long before = x.digest();
        int plays = x.plays();
        for (int play : new int[] {-1, plays, plays + 1, 12, 13, Integer.MIN_VALUE, Integer.MAX_VALUE}) {
            if (play < 0 || play >= plays) {
                Dues.dueThrow(play + " of " + plays + " plays", IndexOutOfBoundsException.class,
                        () -> asked.answer(x, play));
            }
        }
        Dues.due("digest", x.digest(), before);
    }

    // ---- what a play is

    private static void counting() {
        String[] parts = {"a", "mask x(x)", "[a a]", "[" + "a ".repeat(75) + "]", "mask x([" + "a ".repeat(75) + "])",
            "mask x(mask y([x mask z([y z])]))", "[" + "mask x(x) ".repeat(50) + "]"};
        int[][] want = {{1, 0, 0}, {2, 1, 0}, {3, 0, 1}, {149, 0, 74}, {150, 1, 74}, {8, 3, 2}, {149, 50, 49}};
        String[] sentences = {"Returns how many parts it has.", "Returns how many masks it has.",
            "Returns how many scenes it has."};
        for (int kind = 0; kind < 3; kind++) {
            Sentences.of("Promise " + (12 + kind), sentences[kind]);
            for (int n = 0; n < parts.length; n++) {
                MaskPlays x = Dues.told("actor a; play p is " + parts[n] + ";");
                Dues.due(parts[n], counted(x, 0, kind), want[n][kind]);
            }
            // As it is now.
            MaskPlays x = Dues.told("actor a; play p is [mask x([x x]) a];");
            Dues.due("as it was told", counted(x, 0, kind), new int[] {6, 1, 2}[kind]);
            x.doStep(0);
            Dues.due("behind a step", counted(x, 0, kind), new int[] {3, 0, 1}[kind]);
        }
        dueNoSuchPlay("Promise 12", (x, play) -> x.sizeOf(play));
        dueNoSuchPlay("Promise 13", (x, play) -> x.masksIn(play));
        dueNoSuchPlay("Promise 14", (x, play) -> x.scenesIn(play));
    }

    private static int counted(MaskPlays x, int play, int kind) {
        return kind == 0 ? x.sizeOf(play) : kind == 1 ? x.masksIn(play) : x.scenesIn(play);
    }

    private static void mostMasksAround() {
        Sentences.of("Promise 15", "Returns how many masks there are around the name with the most of them.");
        dueMost("a", 0);
        dueMost("[a a]", 0);
        dueMost("mask x(a)", 1);
        dueMost("[a mask x(a)]", 1);
        dueMost("[mask x(a) a]", 1);
        dueMost("[mask x(x) mask y(mask z(a)) mask x(x)]", 2);
        dueMost("[mask x(x) mask y(y) mask x(x)]", 1);
        dueMost("mask x([mask y(y) [mask y(mask z(x)) x]])", 3);
        dueMost("mask x(".repeat(8) + "x" + ")".repeat(8), 8);
        Dues.due("as many as a step can bring", theDeepest().mostMasksAround(1 - DEEPEST), 139);
        Dues.due("as many as a step can bring", theDeepest().mostMasksAround(DEEPEST), 146);
        dueNoSuchPlay("Promise 15", (x, play) -> x.mostMasksAround(play));
    }

    private static void dueMost(String part, int most) {
        Dues.due(part, Dues.told("actor a; play p is " + part + ";").mostMasksAround(0), most);
    }

    private static final int DEEPEST = 0;

    /** By each step seven masks more come around a name: 146 at last, when the scene has 150 parts ahead of it. */
    private static MaskPlays theDeepest() {
        String seven = "mask x(" + "mask yyyyyyyyyy(".repeat(7) + "x" + ")".repeat(8);
        MaskPlays x = Dues.told("actor zzzzzzzzzz; play k is " + seven + "; play m is k; play p is "
                + "mask yyyyyyyyyy(".repeat(6) + "zzzzzzzzzz" + ")".repeat(6) + ";");
        int deepest = 2;
        for (int n = 1; n <= 20; n++) {
            int next = n % 2;
            x.renew(next);
            x.give(deepest, next);
            x.doStep(next);
            deepest = next;
        }
        return x;
    }

    private static void standing() {
        Sentences.of("Promise 16", "Returns how often this one stands in it.");
        MaskPlays x = Dues.told("play l is mask a(mask b([a b])); actor a; actor b; actor c; play p is [l a];"
                + " play q is [" + "a ".repeat(75) + "]; play r is mask x([a [b mask y([a x])]]); play s is c;");
        long[][] want = {{0, 0, 0}, {1, 0, 0}, {75, 0, 0}, {2, 1, 0}, {0, 0, 1}};
        for (int play = 0; play < want.length; play++) {
            for (int actor = 0; actor < 3; actor++) {
                Dues.due("standsIn(" + play + ", " + actor + ")", x.standsIn(play, actor), want[play][actor]);
            }
        }
        x.give(1, 4);
        Dues.due("standsIn(4, 0)", x.standsIn(4, 0), 1);
        Sentences.of("Promise 16", "Throws `IndexOutOfBoundsException` if there is no such play or actor");
        Dues.due("the last actor", x.standsIn(4, 2), 1);
        Dues.due("the first actor", x.standsIn(1, 0), 1);
        for (int actor : new int[] {-1, 3, 8, Integer.MIN_VALUE, Integer.MAX_VALUE}) {
            Dues.dueThrow("actor " + actor, IndexOutOfBoundsException.class, () -> x.standsIn(0, actor));
            Dues.dueThrow("no play, and actor " + actor, IndexOutOfBoundsException.class, () -> x.standsIn(5, actor));
        }
        for (int play : new int[] {-1, 5, 12, Integer.MIN_VALUE, Integer.MAX_VALUE}) {
            Dues.dueThrow("play " + play, IndexOutOfBoundsException.class, () -> x.standsIn(play, 0));
        }
        MaskPlays most = Dues.told("actor a; actor b; actor c; actor d; actor e; actor f; actor g; actor h; play p is h;");
        Dues.due("the 8th actor", most.standsIn(0, 7), 1);
        Dues.dueThrow("the 9th actor", IndexOutOfBoundsException.class, () -> most.standsIn(0, 8));
        MaskPlays none = Dues.told("play p is mask x(x);");
        Dues.dueThrow("without actors", IndexOutOfBoundsException.class, () -> none.standsIn(0, 0));
    }

    private static void stepsDone() {
        Sentences.of("Promise 17", "Returns how many steps of it were done in all.");
        MaskPlays x = Dues.told("actor a; " + ID + "play p is [i [i [i a]]]; play q is p; step p when evening=1;");
        Dues.due("stepsDone", x.stepsDone(1), 0);
        x.doStep(1);
        Dues.due("stepsDone", x.stepsDone(1), 1);
        x.passEvenings(3);
        Dues.due("stepsDone", x.stepsDone(1), 2);
        x.renew(1);
        x.give(0, 1);
        Dues.due("stepsDone", x.stepsDone(1), 2);
        x.doStep(1);
        x.stepsToFinish(1);
        x.sizeAfterSteps(1, 40);
        x.renamedByStep(1);
        Dues.due("stepsDone", x.stepsDone(1), 3);
        Dues.due("stepsDone of another one", x.stepsDone(2), 0);
        Dues.dueThrow("a step that cannot be done", IllegalStateException.class, () -> x.doStep(0));
        Dues.due("stepsDone", x.stepsDone(0), 0);
        dueNoSuchPlay("Promise 17", (y, play) -> y.stepsDone(play));
    }

    private static void finished() {
        Sentences.of("Promise 18", "Returns whether it is finished.");
        MaskPlays x = Dues.told("actor a; " + ID + "play p is [i a]; play q is [a i]; play r is [mask x([x x]) " + ODD + "];"
                + " play s is [mask x(x) " + ODD + "]; play t is [mask x(mask w([x x])) " + EVEN + "];");
        boolean[] finished = {true, false, true, false, false, false};
        for (int play = 0; play < finished.length; play++) {
            Dues.due("isFinished " + play, x.isFinished(play), finished[play]);
        }
        Sentences.of("Promise 19", "Returns whether a step of it can be done.");
        boolean[] can = {false, true, false, false, true, true};
        for (int play = 0; play < can.length; play++) {
            Dues.due("canStep " + play, x.canStep(play), can[play]);
        }
        x.doStep(1);
        Dues.due("canStep behind the last step", x.canStep(1), false);
        Sentences.of("Promise 18", "Returns whether it is finished.");
        Dues.due("isFinished behind the last step", x.isFinished(1), true);
        dueNoSuchPlay("Promise 18", (y, play) -> y.isFinished(play) ? 1 : 0);
        dueNoSuchPlay("Promise 19", (y, play) -> y.canStep(play) ? 1 : 0);
    }

    private static void texts() {
        Sentences.of("Promise 20", "Returns how many letters and signs its text has, blanks as well.");
        MaskPlays x = Dues.told("actor a; actor abcdefghij; play p is a; play q is abcdefghij; play r is mask x(x);"
                + " play s is [a a]; play t is [" + "a ".repeat(75) + "]; play u is mask abcdefghi0(mask x([x a]));");
        int[] lengths = {1, 10, 9, 5, 75 + 3 * 74, 17 + 8 + 5};
        for (int play = 0; play < lengths.length; play++) {
            Dues.due("textLength " + play, x.textLength(play), lengths[play]);
        }
        MaskPlays deepest = theDeepest();
        Dues.due("the longest one", deepest.textLength(DEEPEST), 146 * 17 + 10);
        Sentences.of("Promise 21", "- `place`: a place of its text, from 0");
        Dues.due("letterAt 0", x.letterAt(3, 0), '[');
        Dues.due("letterAt 1", x.letterAt(3, 1), 'a');
        Dues.due("letterAt 4", x.letterAt(3, 4), ']');
        Sentences.of("Promise 21", "Returns the letter or sign there, as its byte.");
        String[] texts = {"a", "abcdefghij", "mask x(x)", "[a a]", "[".repeat(74) + "a" + " a]".repeat(74),
            "mask abcdefghi0(mask x([x a]))"};
        for (int play = 0; play < texts.length; play++) {
            Dues.dueText(x, play, texts[play]);
        }
        Dues.dueText(deepest, DEEPEST, "mask yyyyyyyyyy(".repeat(146) + "zzzzzzzzzz" + ")".repeat(146));
        Sentences.of("Promise 21", "Throws `IndexOutOfBoundsException` if there is no such play or place");
        for (int play = 0; play < texts.length; play++) {
            dueNoPlace(x, play, lengths[play], texts[play]);
        }
        dueNoPlace(deepest, DEEPEST, 2492, Dues.textOf(deepest, DEEPEST));
        for (int play : new int[] {-1, 6, 12, Integer.MIN_VALUE, Integer.MAX_VALUE}) {
            Dues.dueThrow("letterAt of play " + play, IndexOutOfBoundsException.class, () -> x.letterAt(play, 0));
        }
        dueNoSuchPlay("Promise 20", (y, play) -> y.textLength(play));
    }

    private static void dueNoPlace(MaskPlays x, int play, int length, String text) {
        Dues.due("the first place", x.letterAt(play, 0), text.charAt(0));
        Dues.due("the last place", x.letterAt(play, length - 1), text.charAt(length - 1));
        for (int place : new int[] {-1, length, length + 1, 2550, 2551, Integer.MIN_VALUE, Integer.MAX_VALUE}) {
            Dues.dueThrow("place " + place, IndexOutOfBoundsException.class, () -> x.letterAt(play, place));
        }
    }

    private static void nextScenes() {
        Sentences.of("Promise 22", "Returns the place of its text at which its next scene begins.");
        StringBuilder book = new StringBuilder("actor a; play k0 is [mask x(x) a]; play q is [a [a k0]]; play r is [k0 k0]; ");
        for (int n = 1; n <= 8; n++) {
            book.append("play k").append(n).append(" is ").append("mask y(".repeat(8)).append('k').append(n - 1)
                    .append(")))))))); ");
        }
        MaskPlays x = Dues.told(book.toString());
        Dues.due("at its beginning", x.nextSceneAt(0), 0);
        Dues.due("behind two names", x.nextSceneAt(1), 6);
        Dues.due("the first of two", x.nextSceneAt(2), 1);
        for (int n = 1; n <= 8; n++) {
            Dues.due("within masks", x.nextSceneAt(2 + n), 8 * 7 * n);
        }
        x.doStep(2);
        Dues.due("behind a step", x.nextSceneAt(2), 3);
        MaskPlays late = Dues.told("actor a; play p is [" + "a ".repeat(72) + "[mask x(x) a]];");
        Dues.due("the last scene", late.nextSceneAt(0), 72 + 1 + 3 * 71 + 1);
        dueNoSuchPlay("Promise 22", (y, play) -> y.nextSceneAt(play));
        Sentences.of("Promise 22", "Throws `IllegalStateException` if it is finished");
        MaskPlays y = Dues.told("actor a; play p is [mask x(x) a]; play q is [a mask x(x)]; play r is mask x(x);"
                + " play s is [mask x([x x]) " + ODD + "];");
        Dues.due("not finished", y.nextSceneAt(0), 0);
        y.doStep(0);
        for (int play = 0; play < 3; play++) {
            int finished = play;
            Dues.dueThrow("finished", IllegalStateException.class, () -> y.nextSceneAt(finished));
        }
        Dues.due("not finished, though a step cannot be done", y.nextSceneAt(3), 0);
    }

    private static void renamings() {
        Sentences.of("Promise 23", "Returns how many masks would be renamed by the next step of it (nothing is changed).");
        String seven = "mask y(".repeat(6) + "x" + ")".repeat(6);
        MaskPlays x = Dues.told("play p is mask x(" + seven + "); play q is mask x([" + seven + " " + seven + "]); "
                + "play r is mask x(mask y(y)); actor y; actor a; play s is [p y]; play t is [q y]; play u is [r y];"
                + " play v is [p a]; play w is [p [y y]];");
        int[] renamed = {6, 12, 0, 0, 6};
        for (int n = 0; n < renamed.length; n++) {
            long before = x.digest();
            Dues.due("renamedByStep " + n, x.renamedByStep(3 + n), renamed[n]);
            Dues.due("renamedByStep again", x.renamedByStep(3 + n), renamed[n]);
            Dues.due("digest", x.digest(), before);
        }
        x.doStep(3);
        Dues.dueText(x, 3, "mask z0(".repeat(6) + "y" + ")".repeat(6));
        dueNoSuchPlay("Promise 23", (y, play) -> y.renamedByStep(play));
        Sentences.of("Promise 23", "Throws `IllegalStateException` if it cannot be done");
        MaskPlays y = tooLarge();
        Dues.due("to 150 parts", y.renamedByStep(0), 0);
        Dues.dueThrow("to 151 parts", IllegalStateException.class, () -> y.renamedByStep(1));
        Dues.dueThrow("finished", IllegalStateException.class, () -> y.renamedByStep(2));
    }

    /** Plays that would have 150 and 151 parts behind a step, and one that is finished. */
    private static MaskPlays tooLarge() {
        return Dues.told("actor a; play p is [mask x(mask w([x x])) " + EVEN + "]; play q is [mask x(mask v(mask w([x x])))"
                + EVEN + "]; play r is [a mask x(x)];");
    }

    private static void sameness() {
        Sentences.of("Promise 24", "Returns whether both are the same now.");
        MaskPlays x = Dues.told("actor a; " + ID + "play p is [i a]; play q is a; play r is [mask y(y) a];");
        Dues.due("isSame", x.isSame(1, 3), true);
        Dues.due("isSame", x.isSame(1, 2), false);
        x.doStep(1);
        Dues.due("isSame now", x.isSame(1, 2), true);
        Dues.due("isSame now", x.isSame(1, 3), false);
        Dues.due("isSame now", x.isSame(3, 1), false);
        Dues.due("itself", x.isSame(1, 1), true);
        Sentences.of("Promise 25", "Returns whether it is the same as it was told.");
        Dues.due("isAsTold", x.isAsTold(0), true);
        Dues.due("behind a step", x.isAsTold(1), false);
        x.give(0, 2);
        Dues.due("behind a gift", x.isAsTold(2), false);
        x.renew(1);
        Dues.due("behind renewing", x.isAsTold(1), true);
        MaskPlays y = Dues.told("play p is [mask x([x x]) mask y([y y])]; play q is mask x(x); play r is mask y(y);");
        y.doStep(0);
        Dues.due("with other names of masks", y.isAsTold(0), true);
        y.give(2, 1);
        y.doStep(1);
        Dues.dueText(y, 1, "mask y(y)");
        Dues.due("with another name of its mask", y.isAsTold(1), true);
        dueNoSuchPlay("Promise 24", (z, play) -> z.isSame(play, 0) ? 1 : 0);
        dueNoSuchPlay("Promise 24", (z, play) -> z.isSame(0, play) ? 1 : 0);
        dueNoSuchPlay("Promise 25", (z, play) -> z.isAsTold(play) ? 1 : 0);
    }

    // ---- by hand

    private static void stepsByHand() {
        Sentences.of("Promise 26", "Does a step of a play.");
        MaskPlays x = Dues.told("actor a; " + ID + "play p is [i [i a]]; play q is p;");
        x.doStep(1);
        Dues.dueText(x, 1, "[mask x(x) a]");
        Dues.dueText(x, 2, "[mask x(x) [mask x(x) a]]");
        Dues.due("stepsDone", x.stepsDone(1) * 10 + x.stepsDone(2), 10);
        Dues.due("notesCarriedOut", x.notesCarriedOut(), 0);
        Sentences.of("Promise 26", "Returns how many parts it has then.");
        Dues.due("doStep", x.doStep(1), 1);
        Dues.due("doStep", x.doStep(2), 4);
        MaskPlays y = tooLarge();
        Dues.due("doStep", y.doStep(0), 150);
        dueNoSuchPlay("Promise 26", (z, play) -> z.doStep(play));
        Sentences.of("Promise 26", "Throws `IllegalStateException` if it cannot be done");
        Dues.dueThrow("behind the last step", IllegalStateException.class, () -> x.doStep(1));
        Dues.dueThrow("to 151 parts", IllegalStateException.class, () -> y.doStep(1));
        Dues.dueThrow("finished", IllegalStateException.class, () -> y.doStep(2));
        Dues.due("stepsDone", y.stepsDone(0) * 100 + y.stepsDone(1) * 10 + y.stepsDone(2), 100);
        Dues.due("sizeOf", y.sizeOf(1), 81);
        Dues.due("doStep of the large one", y.doStep(0), 74);
    }

    private static void givingByHand() {
        Sentences.of("Promise 27", "Gives a play to another one, or to itself: this becomes the scene of itself and the first"
                + " one, as both are.");
        MaskPlays x = Dues.told("actor a; actor b; play p is [mask x(x) a]; play q is b;");
        x.doStep(0);
        x.give(0, 1);
        Dues.dueText(x, 0, "a");
        Dues.dueText(x, 1, "[b a]");
        x.give(1, 1);
        Dues.dueText(x, 1, "[[b a] [b a]]");
        x.give(1, 0);
        Dues.dueText(x, 0, "[a [[b a] [b a]]]");
        Sentences.of("Promise 27", "Returns how many parts this has then.");
        String told = "actor a; play p is " + ODD + "; play q is " + EVEN + "; play r is a; play s is [" + "a ".repeat(75)
                + "]; play t is mask x([" + "a ".repeat(74) + "]); play u is mask x(s);";
        int[][] fits = {{2, 2, 3}, {0, 1, 150}, {1, 0, 150}, {1, 1, 149}, {2, 4, 150}, {4, 2, 150}, {0, 2, 77}, {2, 5, 0},
            {5, 2, 0}, {0, 0, 0}, {2, 3, 0}, {3, 2, 0}, {4, 4, 0}, {3, 3, 0}, {5, 5, 0}};
        for (int[] gift : fits) {
            if (gift[2] > 0) {
                Dues.due("give " + gift[0] + " to " + gift[1], Dues.told(told).give(gift[0], gift[1]), gift[2]);
            }
        }
        dueNoSuchPlay("Promise 27", (y, play) -> y.give(play, 0));
        dueNoSuchPlay("Promise 27", (y, play) -> y.give(0, play));
        Sentences.of("Promise 27", "Throws `IllegalStateException` if it would have more than 150 parts");
        for (int[] gift : fits) {
            MaskPlays y = Dues.told(told);
            long before = y.digest();
            if (gift[2] == 0) {
                Dues.dueThrow("give " + gift[0] + " to " + gift[1], IllegalStateException.class,
                        () -> y.give(gift[0], gift[1]));
                Dues.due("digest", y.digest(), before);
            }
        }
    }

    private static void renewingByHand() {
        Sentences.of("Promise 28", "Makes a play as it was told.");
        MaskPlays x = Dues.told("actor a; play p is [mask x([x x]) a]; play q is [p a];");
        x.doStep(0);
        x.doStep(1);
        x.renew(0);
        Dues.dueText(x, 0, "[mask x([x x]) a]");
        Dues.dueText(x, 1, "[[a a] a]");
        Dues.due("stepsDone", x.stepsDone(0), 1);
        x.give(0, 0);
        x.renew(0);
        Dues.dueText(x, 0, "[mask x([x x]) a]");
        Sentences.of("Promise 28", "Returns how many parts it has then.");
        Dues.due("renew", x.renew(1), 8);
        Dues.due("renew what is as told", x.renew(1), 8);
        MaskPlays y = Dues.told("actor a; play p is a; play q is mask x([" + "a ".repeat(75) + "]);");
        y.give(0, 0);
        Dues.due("renew", y.renew(0), 1);
        Dues.due("renew", y.renew(1), 150);
        dueNoSuchPlay("Promise 28", (z, play) -> z.renew(play));
    }
}
