/** The bounds of the calls, promise by promise: 12 to 28, what a play is, and what is done by hand. */
final class BoundsOfPlays {
    private static final String ID = "play i is mask x(x); ";
    /** 75 parts, and 74 parts: together with a scene they are 150. */
    private static final String ODD = "[" + "a ".repeat(38) + "]";
    private static final String EVEN = "mask u([" + "a ".repeat(37) + "])";
    private static final String[] PARTS = {"a", "mask x(x)", "[a a]", "[" + "a ".repeat(75) + "]",
        "mask x([" + "a ".repeat(75) + "])", "mask x(mask y([x mask z([y z])]))", "[" + "mask x(x) ".repeat(50) + "]"};
    private static final String SIX_PLAYS = "actor a; actor abcdefghij; play p is a; play q is abcdefghij; play r is mask x(x);"
            + " play s is [a a]; play t is [" + "a ".repeat(75) + "]; play u is mask abcdefghi0(mask x([x a]));";
    private static final String[] SIX_TEXTS = {"a", "abcdefghij", "mask x(x)", "[a a]",
        "[".repeat(74) + "a" + " a]".repeat(74), "mask abcdefghi0(mask x([x a]))"};
    private static final String ACTORS = "play l is mask a(mask b([a b])); actor a; actor b; actor c; play p is [l a];"
            + " play q is [" + "a ".repeat(75) + "]; play r is mask x([a [b mask y([a x])]]); play s is c;";
    private static final String GIFTS = "actor a; play p is " + ODD + "; play q is " + EVEN + "; play r is a; play s is ["
            + "a ".repeat(75) + "]; play t is mask x([" + "a ".repeat(74) + "]); play u is mask x(s);";
    /** Of the gifts: what is given, to what, and the size then, or 0 if it would have more than 150 parts. */
    private static final int[][] SIZES_OF_GIFTS = {{2, 2, 3}, {0, 1, 150}, {1, 0, 150}, {1, 1, 149}, {2, 4, 150},
        {4, 2, 150}, {0, 2, 77}, {2, 5, 0}, {5, 2, 0}, {0, 0, 0}, {2, 3, 0}, {3, 2, 0}, {4, 4, 0}, {3, 3, 0}, {5, 5, 0}};

    private BoundsOfPlays() {
    }

    static void run() {
        Sentences.of("Promise 12", "Returns how many parts it has.",
                () -> dueCounts(MaskPlays::sizeOf, 1, 2, 3, 149, 150, 8, 149, 6, 3));
        NoSuchPlay.of("Promise 12", MaskPlays::sizeOf);
        Sentences.of("Promise 13", "Returns how many masks it has.",
                () -> dueCounts(MaskPlays::masksIn, 0, 1, 0, 0, 1, 3, 50, 1, 0));
        NoSuchPlay.of("Promise 13", MaskPlays::masksIn);
        Sentences.of("Promise 14", "Returns how many scenes it has.",
                () -> dueCounts(MaskPlays::scenesIn, 0, 0, 1, 74, 74, 2, 49, 2, 1));
        NoSuchPlay.of("Promise 14", MaskPlays::scenesIn);
        Sentences.of("Promise 15", "Returns how many masks there are around the name with the most of them.",
                BoundsOfPlays::mostMasksAround);
        NoSuchPlay.of("Promise 15", MaskPlays::mostMasksAround);
        Sentences.of("Promise 16", "Returns how often this one stands in it.", BoundsOfPlays::standing);
        Sentences.of("Promise 16", "Throws `IndexOutOfBoundsException` if there is no such play or actor",
                BoundsOfPlays::noSuchActor);
        Sentences.of("Promise 17", "Returns how many steps of it were done in all.", BoundsOfPlays::stepsDone);
        NoSuchPlay.of("Promise 17", MaskPlays::stepsDone);
        Sentences.of("Promise 18", "Returns whether it is finished.", BoundsOfPlays::finished);
        NoSuchPlay.of("Promise 18", (x, play) -> x.isFinished(play) ? 1 : 0);
        Sentences.of("Promise 19", "Returns whether a step of it can be done.", BoundsOfPlays::stepsThatCanBeDone);
        NoSuchPlay.of("Promise 19", (x, play) -> x.canStep(play) ? 1 : 0);
        Sentences.of("Promise 20", "Returns how many letters and signs its text has, blanks as well.",
                BoundsOfPlays::textLengths);
        NoSuchPlay.of("Promise 20", MaskPlays::textLength);
        Sentences.of("Promise 21", "- `place`: a place of its text, from 0", BoundsOfPlays::placesFrom0);
        Sentences.of("Promise 21", "Returns the letter or sign there, as its byte.", BoundsOfPlays::letters);
        Sentences.of("Promise 21", "Throws `IndexOutOfBoundsException` if there is no such play or place",
                BoundsOfPlays::noSuchPlace);
        Sentences.of("Promise 22", "Returns the place of its text at which its next scene begins.",
                BoundsOfPlays::nextScenes);
        NoSuchPlay.of("Promise 22", MaskPlays::nextSceneAt);
        Sentences.of("Promise 22", "Throws `IllegalStateException` if it is finished", BoundsOfPlays::noNextScene);
        Sentences.of("Promise 23", "Returns how many masks would be renamed by the next step of it (nothing is changed).",
                BoundsOfPlays::renamings);
        NoSuchPlay.of("Promise 23", MaskPlays::renamedByStep);
        Sentences.of("Promise 23", "Throws `IllegalStateException` if it cannot be done", BoundsOfPlays::noRenaming);
        Sentences.of("Promise 24", "Returns whether both are the same now.", BoundsOfPlays::sameNow);
        NoSuchPlay.of("Promise 24", (x, play) -> x.isSame(play, 0) ? 1 : 0);
        NoSuchPlay.of("Promise 24", (x, play) -> x.isSame(0, play) ? 1 : 0);
        Sentences.of("Promise 25", "Returns whether it is the same as it was told.", BoundsOfPlays::sameAsTold);
        NoSuchPlay.of("Promise 25", (x, play) -> x.isAsTold(play) ? 1 : 0);
        runByHand();
    }

    private static void runByHand() {
        Sentences.of("Promise 26", "Does a step of a play.", BoundsOfPlays::steps);
        Sentences.of("Promise 26", "Returns how many parts it has then.", BoundsOfPlays::sizesBehindSteps);
        NoSuchPlay.of("Promise 26", MaskPlays::doStep);
        Sentences.of("Promise 26", "Throws `IllegalStateException` if it cannot be done", BoundsOfPlays::noStep);
        Sentences.of("Promise 27", "Gives a play to another one, or to itself: this becomes the scene of itself and the first"
                + " one, as both are.", BoundsOfPlays::giving);
        Sentences.of("Promise 27", "Returns how many parts this has then.", BoundsOfPlays::sizesBehindGifts);
        NoSuchPlay.of("Promise 27", (x, play) -> x.give(play, 0));
        NoSuchPlay.of("Promise 27", (x, play) -> x.give(0, play));
        Sentences.of("Promise 27", "Throws `IllegalStateException` if it would have more than 150 parts",
                BoundsOfPlays::noGift);
        Sentences.of("Promise 28", "Makes a play as it was told.", BoundsOfPlays::renewing);
        Sentences.of("Promise 28", "Returns how many parts it has then.", BoundsOfPlays::sizesBehindRenewing);
        NoSuchPlay.of("Promise 28", MaskPlays::renew);
    }

    // ---- what a play is

    /** Of each of the parts, and then of [mask x([x x]) a] ahead of a step and behind it. */
    private static void dueCounts(NoSuchPlay.Asked count, int... want) {
        for (int n = 0; n < PARTS.length; n++) {
            MaskPlays x = Dues.told("actor a; play p is " + PARTS[n] + ";");
            Dues.due("of " + PARTS[n], count.answer(x, 0), want[n]);
        }
        MaskPlays x = Dues.told("actor a; play p is [mask x([x x]) a];");
        Dues.due("as it was told", count.answer(x, 0), want[PARTS.length]);
        x.doStep(0);
        Dues.due("behind a step", count.answer(x, 0), want[PARTS.length + 1]);
    }

    private static void mostMasksAround() {
        dueMost("a", 0);
        dueMost("[a a]", 0);
        dueMost("mask x(a)", 1);
        dueMost("[a mask x(a)]", 1);
        dueMost("[mask x(a) a]", 1);
        dueMost("[mask x(x) mask y(mask z(a)) mask x(x)]", 2);
        dueMost("[mask x(x) mask y(y) mask x(x)]", 1);
        dueMost("mask x([mask y(y) [mask y(mask z(x)) x]])", 3);
        dueMost("mask x(".repeat(8) + "x" + ")".repeat(8), 8);
        Dues.due("seven fewer than most", theDeepest().mostMasksAround(1), 139);
        Dues.due("as many as a step can bring", theDeepest().mostMasksAround(0), 146);
    }

    private static void dueMost(String part, int most) {
        Dues.due(part, Dues.told("actor a; play p is " + part + ";").mostMasksAround(0), most);
    }

    /**
     * By each step seven masks more come around a name, now in play 1 and now in play 0: there at last
     * 146 of them, when the scene had 150 parts ahead of it.
     */
    private static MaskPlays theDeepest() {
        String seven = "mask x(" + "mask yyyyyyyyyy(".repeat(7) + "x" + ")".repeat(8);
        MaskPlays x = Dues.told("actor zzzzzzzzzz; play k is " + seven + "; play m is k; play p is "
                + "mask yyyyyyyyyy(".repeat(6) + "zzzzzzzzzz" + ")".repeat(6) + ";");
        int deepest = 2;
        for (int n = 1; n <= 20; n++) {
            int next = n % 2;
            x.renew(next);
            x.give(deepest, next);
            x.doStep(next);
            deepest = next;
        }
        return x;
    }

    private static void standing() {
        MaskPlays x = Dues.told(ACTORS);
        long[][] want = {{0, 0, 0}, {1, 0, 0}, {75, 0, 0}, {2, 1, 0}, {0, 0, 1}};
        for (int play = 0; play < want.length; play++) {
            for (int actor = 0; actor < 3; actor++) {
                Dues.due("standsIn(" + play + ", " + actor + ")", x.standsIn(play, actor), want[play][actor]);
            }
        }
        x.give(1, 4);
        Dues.due("standsIn(4, 0)", x.standsIn(4, 0), 1);
    }

    private static void noSuchActor() {
        MaskPlays x = Dues.told(ACTORS);
        Dues.due("the last actor", x.standsIn(4, 2), 1);
        Dues.due("the first actor", x.standsIn(1, 0), 1);
        for (int actor : new int[] {-1, 3, 8, Integer.MIN_VALUE, Integer.MAX_VALUE}) {
            Dues.dueThrow("actor " + actor, IndexOutOfBoundsException.class, () -> x.standsIn(0, actor));
            Dues.dueThrow("no play, and actor " + actor, IndexOutOfBoundsException.class, () -> x.standsIn(5, actor));
        }
        for (int play : new int[] {-1, 5, 12, Integer.MIN_VALUE, Integer.MAX_VALUE}) {
            Dues.dueThrow("play " + play, IndexOutOfBoundsException.class, () -> x.standsIn(play, 0));
        }
        MaskPlays most = Dues.told("actor a; actor b; actor c; actor d; actor e; actor f; actor g; actor h; play p is h;");
        Dues.due("the 8th actor", most.standsIn(0, 7), 1);
        Dues.dueThrow("the 9th actor", IndexOutOfBoundsException.class, () -> most.standsIn(0, 8));
        MaskPlays none = Dues.told("play p is mask x(x);");
        Dues.dueThrow("without actors", IndexOutOfBoundsException.class, () -> none.standsIn(0, 0));
    }

    private static void stepsDone() {
        MaskPlays x = Dues.told("actor a; " + ID + "play p is [i [i [i a]]]; play q is p; step p when evening=1;");
        Dues.due("stepsDone", x.stepsDone(1), 0);
        x.doStep(1);
        Dues.due("stepsDone", x.stepsDone(1), 1);
        x.passEvenings(3);
        Dues.due("stepsDone", x.stepsDone(1), 2);
        x.renew(1);
        x.give(0, 1);
        Dues.due("stepsDone", x.stepsDone(1), 2);
        x.doStep(1);
        x.stepsToFinish(1);
        x.sizeAfterSteps(1, 30);
        x.renamedByStep(1);
        Dues.due("stepsDone", x.stepsDone(1), 3);
        Dues.due("stepsDone of another one", x.stepsDone(2), 0);
        Dues.dueThrow("a step that cannot be done", IllegalStateException.class, () -> x.doStep(0));
        Dues.due("stepsDone", x.stepsDone(0), 0);
    }

    /** Finished are the first and the third one; of the fourth one the step would bring 151 parts. */
    private static MaskPlays somePlays() {
        return Dues.told("actor a; " + ID + "play p is [i a]; play q is [a i]; play r is [mask x([x x]) " + ODD + "];"
                + " play s is [mask x(x) " + ODD + "]; play t is [mask x(mask w([x x])) " + EVEN + "];");
    }

    private static void finished() {
        MaskPlays x = somePlays();
        boolean[] finished = {true, false, true, false, false, false};
        for (int play = 0; play < finished.length; play++) {
            Dues.due("isFinished " + play, x.isFinished(play), finished[play]);
        }
        x.doStep(1);
        Dues.due("isFinished behind the last step", x.isFinished(1), true);
        x.give(0, 1);
        Dues.due("isFinished behind a gift", x.isFinished(1), true);
        x.renew(1);
        Dues.due("isFinished behind renewing", x.isFinished(1), false);
    }

    private static void stepsThatCanBeDone() {
        MaskPlays x = somePlays();
        boolean[] can = {false, true, false, false, true, true};
        for (int play = 0; play < can.length; play++) {
            Dues.due("canStep " + play, x.canStep(play), can[play]);
        }
        x.doStep(1);
        Dues.due("canStep behind the last step", x.canStep(1), false);
        x.renew(1);
        Dues.due("canStep behind renewing", x.canStep(1), true);
    }

    // ---- texts

    private static void textLengths() {
        MaskPlays x = Dues.told(SIX_PLAYS);
        int[] lengths = {1, 10, 9, 5, 75 + 3 * 74, 17 + 8 + 5};
        for (int play = 0; play < lengths.length; play++) {
            Dues.due("textLength " + play, x.textLength(play), lengths[play]);
        }
        Dues.due("the longest one", theDeepest().textLength(0), 146 * 17 + 10);
    }

    private static void placesFrom0() {
        MaskPlays x = Dues.told(SIX_PLAYS);
        Dues.due("letterAt 0", x.letterAt(3, 0), '[');
        Dues.due("letterAt 1", x.letterAt(3, 1), 'a');
        Dues.due("letterAt 4", x.letterAt(3, 4), ']');
    }

    private static void letters() {
        MaskPlays x = Dues.told(SIX_PLAYS);
        for (int play = 0; play < SIX_TEXTS.length; play++) {
            Dues.dueText(x, play, SIX_TEXTS[play]);
        }
        Dues.dueText(theDeepest(), 0, "mask yyyyyyyyyy(".repeat(146) + "zzzzzzzzzz" + ")".repeat(146));
    }

    private static void noSuchPlace() {
        MaskPlays x = Dues.told(SIX_PLAYS);
        for (int play = 0; play < SIX_TEXTS.length; play++) {
            dueNoPlace(x, play, SIX_TEXTS[play]);
        }
        dueNoPlace(theDeepest(), 0, "mask yyyyyyyyyy(".repeat(146) + "zzzzzzzzzz" + ")".repeat(146));
        for (int play : new int[] {-1, 6, 12, Integer.MIN_VALUE, Integer.MAX_VALUE}) {
            Dues.dueThrow("letterAt of play " + play, IndexOutOfBoundsException.class, () -> x.letterAt(play, 0));
            Dues.dueThrow("letterAt of play " + play, IndexOutOfBoundsException.class, () -> x.letterAt(play, -1));
        }
        MaskPlays none = new MaskPlays();
        Dues.dueThrow("letterAt without plays", IndexOutOfBoundsException.class, () -> none.letterAt(0, 0));
    }

    private static void dueNoPlace(MaskPlays x, int play, String text) {
        int length = text.length();
        Dues.due("the first place", x.letterAt(play, 0), text.charAt(0));
        Dues.due("the last place", x.letterAt(play, length - 1), text.charAt(length - 1));
        for (int place : new int[] {-1, length, length + 1, 2550, 2551, Integer.MIN_VALUE, Integer.MAX_VALUE}) {
            Dues.dueThrow("place " + place, IndexOutOfBoundsException.class, () -> x.letterAt(play, place));
        }
    }

    // ---- next scenes and renamings

    private static void nextScenes() {
        StringBuilder book = new StringBuilder("actor a; play k0 is [mask x(x) a]; play q is [a [a k0]]; play r is [k0 k0]; ");
        for (int n = 1; n <= 8; n++) {
            book.append("play k").append(n).append(" is ").append("mask y(".repeat(8)).append('k').append(n - 1)
                    .append(")))))))); ");
        }
        MaskPlays x = Dues.told(book.toString());
        Dues.due("at its beginning", x.nextSceneAt(0), 0);
        Dues.due("behind two names", x.nextSceneAt(1), 6);
        Dues.due("the first of two", x.nextSceneAt(2), 1);
        for (int n = 1; n <= 8; n++) {
            Dues.due("within masks", x.nextSceneAt(2 + n), 8 * 7 * n);
        }
        x.doStep(2);
        Dues.due("behind a step", x.nextSceneAt(2), 3);
        MaskPlays late = Dues.told("actor a; play p is [" + "a ".repeat(72) + "[mask x(x) a]];");
        Dues.due("the last scene", late.nextSceneAt(0), 72 + 1 + 3 * 71 + 1);
    }

    private static void noNextScene() {
        MaskPlays x = Dues.told("actor a; play p is [mask x(x) a]; play q is [a mask x(x)]; play r is mask x(x);"
                + " play s is [mask x([x x]) " + ODD + "];");
        Dues.due("not finished", x.nextSceneAt(0), 0);
        x.doStep(0);
        for (int play = 0; play < 3; play++) {
            int finished = play;
            Dues.dueThrow("finished", IllegalStateException.class, () -> x.nextSceneAt(finished));
        }
        Dues.due("not finished, though a step cannot be done", x.nextSceneAt(3), 0);
    }

    private static void renamings() {
        String six = "mask y(".repeat(6) + "x" + ")".repeat(6);
        MaskPlays x = Dues.told("play p is mask x(" + six + "); play q is mask x([" + six + " " + six + "]); "
                + "play r is mask x(mask y(y)); actor y; actor a; play s is [p y]; play t is [q y]; play u is [r y];"
                + " play v is [p a]; play w is [p [y y]];");
        int[] renamed = {6, 12, 0, 0, 6};
        for (int n = 0; n < renamed.length; n++) {
            long before = x.digest();
            Dues.due("renamedByStep " + n, x.renamedByStep(3 + n), renamed[n]);
            Dues.due("renamedByStep again", x.renamedByStep(3 + n), renamed[n]);
            Dues.due("digest", x.digest(), before);
        }
        x.doStep(3);
        Dues.dueText(x, 3, "mask z0(".repeat(6) + "y" + ")".repeat(6));
    }

    /** Plays that would have 150 and 151 parts behind a step, and one that is finished. */
    private static MaskPlays tooLarge() {
        return Dues.told("actor a; play p is [mask x(mask w([x x])) " + EVEN + "]; play q is [mask x(mask v(mask w([x x])))"
                + EVEN + "]; play r is [a mask x(x)];");
    }

    private static void noRenaming() {
        MaskPlays x = tooLarge();
        Dues.due("to 150 parts", x.renamedByStep(0), 0);
        Dues.dueThrow("to 151 parts", IllegalStateException.class, () -> x.renamedByStep(1));
        Dues.dueThrow("finished", IllegalStateException.class, () -> x.renamedByStep(2));
    }

    // ---- what is the same

    private static void sameNow() {
        MaskPlays x = Dues.told("actor a; " + ID + "play p is [i a]; play q is a; play r is [mask y(y) a];");
        Dues.due("isSame", x.isSame(1, 3), true);
        Dues.due("isSame", x.isSame(1, 2), false);
        x.doStep(1);
        Dues.due("isSame now", x.isSame(1, 2), true);
        Dues.due("isSame now", x.isSame(1, 3), false);
        Dues.due("isSame now", x.isSame(3, 1), false);
        Dues.due("itself", x.isSame(1, 1), true);
    }

    private static void sameAsTold() {
        MaskPlays x = Dues.told("actor a; " + ID + "play p is [i a]; play q is a;");
        Dues.due("isAsTold", x.isAsTold(0), true);
        Dues.due("isAsTold", x.isAsTold(1), true);
        x.doStep(1);
        Dues.due("behind a step", x.isAsTold(1), false);
        x.give(0, 2);
        Dues.due("behind a gift", x.isAsTold(2), false);
        x.renew(1);
        Dues.due("behind renewing", x.isAsTold(1), true);
        MaskPlays y = Dues.told("play p is [mask x([x x]) mask y([y y])]; play q is mask x(x); play r is mask y(y);");
        y.doStep(0);
        Dues.due("with other names of masks", y.isAsTold(0), true);
        y.give(2, 1);
        y.doStep(1);
        Dues.dueText(y, 1, "mask y(y)");
        Dues.due("with another name of its mask", y.isAsTold(1), true);
    }

    // ---- by hand

    private static void steps() {
        MaskPlays x = Dues.told("actor a; " + ID + "play p is [i [i a]]; play q is p;");
        x.doStep(1);
        Dues.dueText(x, 1, "[mask x(x) a]");
        Dues.dueText(x, 2, "[mask x(x) [mask x(x) a]]");
        Dues.due("stepsDone", x.stepsDone(1) * 10 + x.stepsDone(2), 10);
        Dues.due("notesCarriedOut", x.notesCarriedOut(), 0);
        Dues.due("evenings", x.evenings(), 0);
    }

    private static void sizesBehindSteps() {
        MaskPlays x = Dues.told("actor a; " + ID + "play p is [i [i a]]; play q is [mask x(a) p];");
        Dues.due("doStep", x.doStep(1), 4);
        Dues.due("doStep", x.doStep(1), 1);
        Dues.due("doStep", x.doStep(2), 1);
        Dues.due("doStep to 150", tooLarge().doStep(0), 150);
    }

    private static void noStep() {
        MaskPlays x = tooLarge();
        long before = x.digest();
        Dues.dueThrow("to 151 parts", IllegalStateException.class, () -> x.doStep(1));
        Dues.dueThrow("finished", IllegalStateException.class, () -> x.doStep(2));
        Dues.due("digest", x.digest(), before);
        Dues.due("to 150 parts", x.doStep(0), 150);
        Dues.due("stepsDone", x.stepsDone(0) * 100 + x.stepsDone(1) * 10 + x.stepsDone(2), 100);
        Dues.due("the large one gets smaller", x.doStep(0), 74);
        MaskPlays y = Dues.told("actor a; play p is [mask x(x) a];");
        Dues.due("the last step", y.doStep(0), 1);
        Dues.dueThrow("behind the last step", IllegalStateException.class, () -> y.doStep(0));
    }

    private static void giving() {
        MaskPlays x = Dues.told("actor a; actor b; play p is [mask x(x) a]; play q is b;");
        x.doStep(0);
        x.give(0, 1);
        Dues.dueText(x, 0, "a");
        Dues.dueText(x, 1, "[b a]");
        x.give(1, 1);
        Dues.dueText(x, 1, "[[b a] [b a]]");
        x.give(1, 0);
        Dues.dueText(x, 0, "[a [[b a] [b a]]]");
        Dues.due("stepsDone", x.stepsDone(0) * 10 + x.stepsDone(1), 10);
    }

    private static void sizesBehindGifts() {
        for (int[] gift : SIZES_OF_GIFTS) {
            if (gift[2] > 0) {
                MaskPlays x = Dues.told(GIFTS);
                Dues.due("give " + gift[0] + " to " + gift[1], x.give(gift[0], gift[1]), gift[2]);
                Dues.due("sizeOf", x.sizeOf(gift[1]), gift[2]);
            }
        }
    }

    private static void noGift() {
        for (int[] gift : SIZES_OF_GIFTS) {
            MaskPlays x = Dues.told(GIFTS);
            long before = x.digest();
            if (gift[2] == 0) {
                Dues.dueThrow("give " + gift[0] + " to " + gift[1], IllegalStateException.class,
                        () -> x.give(gift[0], gift[1]));
                Dues.due("digest", x.digest(), before);
            } else {
                Dues.due("give " + gift[0] + " to " + gift[1], x.give(gift[0], gift[1]) <= 150, true);
            }
        }
    }

    private static void renewing() {
        MaskPlays x = Dues.told("actor a; play p is [mask x([x x]) a]; play q is [p a];");
        x.doStep(0);
        x.doStep(1);
        x.renew(0);
        Dues.dueText(x, 0, "[mask x([x x]) a]");
        Dues.dueText(x, 1, "[[a a] a]");
        Dues.due("stepsDone", x.stepsDone(0), 1);
        x.give(0, 0);
        x.renew(0);
        Dues.dueText(x, 0, "[mask x([x x]) a]");
        x.renew(0);
        Dues.dueText(x, 0, "[mask x([x x]) a]");
        Dues.due("notesCarriedOut", x.notesCarriedOut(), 0);
    }

    private static void sizesBehindRenewing() {
        MaskPlays x = Dues.told("actor a; play p is a; play q is mask x([" + "a ".repeat(75) + "]); play r is ["
                + "mask x([x x]) a];");
        x.give(0, 0);
        x.doStep(2);
        Dues.due("renew from 3 parts", x.renew(0), 1);
        Dues.due("renew what is as told", x.renew(1), 150);
        Dues.due("renew from 3 parts", x.renew(2), 6);
        Dues.due("renew again", x.renew(2), 6);
    }
}
