/** The bounds of the calls, promise by promise: 29 to 37, evenings and what would be. */
final class BoundsOfWouldBe {
    private static final String ID = "play i is mask x(x); ";
    /** Plays 1 to 6 are finished behind 8, 16, 24, 32, 40 and 41 steps, each of which takes three parts away. */
    private static final String LONG = "actor a; " + ID + "play s8 is " + eightMore("a")
            + "play s16 is " + eightMore("s8") + "play s24 is " + eightMore("s16") + "play s32 is " + eightMore("s24")
            + "play s40 is " + eightMore("s32") + "play s41 is [i s40]; ";
    /** 75 parts: given to what uses it twice there is a scene too many for 150. */
    private static final String ODD = "[" + "a ".repeat(38) + "]";

    private BoundsOfWouldBe() {
    }

    private static String eightMore(String part) {
        return "[i ".repeat(8) + part + "]".repeat(8) + "; ";
    }

    static void run() {
        Sentences.of("Promise 29", "Lets evenings go by.", BoundsOfWouldBe::evenings);
        Sentences.of("Promise 29", "Returns how many notes are carried out in them.", BoundsOfWouldBe::notesCarriedOut);
        Sentences.of("Promise 29", "Throws `IllegalArgumentException` if evenings is not 1 to 20",
                BoundsOfWouldBe::noEvenings);
        Sentences.of("Promise 30", "Returns behind how many steps it is finished, 0 if it is now (nothing is changed).",
                BoundsOfWouldBe::stepsToFinish);
        NoSuchPlay.of("Promise 30", MaskPlays::stepsToFinish);
        Sentences.of("Promise 30", "Throws `IllegalStateException` if it is not behind 40 steps, or a step ahead of that"
                + " cannot be done", BoundsOfWouldBe::notBehind40Steps);
        Sentences.of("Promise 31", "Returns how many parts it has behind so many steps, or behind all that can be done, if"
                + " these are fewer (nothing is changed).", BoundsOfWouldBe::sizeAfterSteps);
        NoSuchPlay.of("Promise 31", (x, play) -> x.sizeAfterSteps(play, 0));
        NoSuchPlay.of("Promise 31", (x, play) -> x.sizeAfterSteps(play, 40));
        Sentences.of("Promise 31", "Throws `IllegalArgumentException` if steps is not 0 to 40",
                BoundsOfWouldBe::not0To40Steps);
        Sentences.of("Promise 32", "Returns whether both are the same behind 40 steps each, or behind all that can be done,"
                + " if these are fewer (nothing is changed).", BoundsOfWouldBe::endSame);
        NoSuchPlay.of("Promise 32", (x, play) -> x.endSame(play, 0) ? 1 : 0);
        NoSuchPlay.of("Promise 32", (x, play) -> x.endSame(0, play) ? 1 : 0);
        Sentences.of("Promise 33", "Returns how many parts it has behind them, if nothing is done by hand (nothing is"
                + " changed).", BoundsOfWouldBe::sizeAfterEvenings);
        NoSuchPlay.of("Promise 33", (x, play) -> x.sizeAfterEvenings(play, 1));
        NoSuchPlay.of("Promise 33", (x, play) -> x.sizeAfterEvenings(play, 20));
        Sentences.of("Promise 33", "Throws `IllegalArgumentException` if evenings is not 1 to 20",
                BoundsOfWouldBe::noEveningsThatWouldBe);
        Sentences.of("Promise 34", "Returns behind how many evenings it is finished for the first time, if nothing is done by"
                + " hand: 0 if it is now, at most 20; -1 if not by then (nothing is changed).",
                BoundsOfWouldBe::eveningsUntilFinished);
        NoSuchPlay.of("Promise 34", MaskPlays::eveningsUntilFinished);
        Sentences.of("Promise 35", "Looks for the play that had best be given to one, of those that can be given: so that"
                + " this is finished behind the fewest steps, 40 at most.", BoundsOfWouldBe::gifts);
        Sentences.of("Promise 35", "Returns the play that is given, of several the smallest number; -1 if it would be"
                + " finished so by none (nothing is changed).", BoundsOfWouldBe::theBestGift);
        NoSuchPlay.of("Promise 35", MaskPlays::bestGift);
        Sentences.of("Promise 36", "Returns the mean size of all plays; 0 without any.", BoundsOfWouldBe::meanSize);
        Sentences.of("Promise 37", "Computes a checksum. A number d starts with 941; for each of the following numbers x, d"
                + " becomes d * 31 + x, which wraps around as a 64-bit integer (whether something is so counts 1 or 0):"
                + " actors(), plays(), notes(), evenings(), notesCarriedOut(), tapeBytes(); for each play sizeOf(),"
                + " masksIn(), scenesIn(), mostMasksAround(), stepsDone(), isFinished(), isAsTold(), textLength(), then the"
                + " letters and signs of its text, then for each actor standsIn() (all in their order).",
                BoundsOfWouldBe::digest);
        Sentences.of("Promise 37", "Returns d.", BoundsOfWouldBe::whatDigestReturns);
    }

    // ---- evenings

    private static void evenings() {
        MaskPlays x = Dues.told(LONG + "step s41;");
        int gone = 0;
        for (int evenings : new int[] {1, 20, 19, 1, 20}) {
            x.passEvenings(evenings);
            gone += evenings;
            Dues.due("evenings", x.evenings(), gone);
            Dues.due("stepsDone", x.stepsDone(6), Math.min(41, gone));
        }
    }

    private static void notesCarriedOut() {
        MaskPlays y = Dues.told(LONG + "step s8; step s8 when evening=1; step s16; step s41 when 1=2;");
        Dues.due("passEvenings(1)", y.passEvenings(1), 2);
        Dues.due("passEvenings(2)", y.passEvenings(2), 5);
        Dues.due("passEvenings(20)", y.passEvenings(20), 8 - 4 + 16 - 3);
        Dues.due("passEvenings(20)", y.passEvenings(20), 0);
        Dues.due("notesCarriedOut", y.notesCarriedOut(), 24);
    }

    private static void noEvenings() {
        MaskPlays z = Dues.told(LONG + "step s41;");
        dueNotOneTo20(z, evenings -> z.passEvenings(evenings));
        Dues.due("passEvenings(1)", z.passEvenings(1), 1);
        Dues.due("passEvenings(20)", z.passEvenings(20), 20);
        MaskPlays none = new MaskPlays();
        dueNotOneTo20(none, evenings -> none.passEvenings(evenings));
        Dues.due("passEvenings(20)", none.passEvenings(20), 0);
    }

    /** A call that is asked with a number. */
    private interface WithNumber {
        long answer(int number);
    }

    private static void dueNotOneTo20(MaskPlays x, WithNumber asked) {
        long before = x.digest();
        for (int evenings : new int[] {0, -1, 21, Integer.MIN_VALUE, Integer.MAX_VALUE}) {
            Dues.dueThrow("evenings " + evenings, IllegalArgumentException.class, () -> asked.answer(evenings));
        }
        Dues.due("digest", x.digest(), before);
    }

    // ---- steps that would be

    private static void stepsToFinish() {
        MaskPlays x = Dues.told(LONG);
        long before = x.digest();
        for (int n = 0; n <= 5; n++) {
            Dues.due("finished behind " + 8 * n, x.stepsToFinish(n), 8 * n);
            Dues.due("digest", x.digest(), before);
        }
        x.doStep(1);
        Dues.due("behind a step", x.stepsToFinish(1), 7);
    }

    private static void notBehind40Steps() {
        MaskPlays x = Dues.told(LONG);
        Dues.due("behind 40 steps", x.stepsToFinish(5), 40);
        Dues.dueThrow("behind 41 steps", IllegalStateException.class, () -> x.stepsToFinish(6));
        x.doStep(6);
        Dues.due("behind 40 steps now", x.stepsToFinish(6), 40);
        MaskPlays y = Dues.told("actor a; " + ID + "play m is " + ODD + "; play n is [mask x([x x]) m];"
                + " play p is [i n]; play q is [mask x(a) n]; play o is [mask x([x x]) mask x([x x])];"
                + " play r is [i [a [i n]]]; play s is [a n];");
        for (int play : new int[] {2, 3, 5, 6, 7}) {
            Dues.dueThrow("of " + play, IllegalStateException.class, () -> y.stepsToFinish(play));
        }
        Dues.due("a scene that would be too large is dropped", y.stepsToFinish(4), 1);
        Dues.due("stepsDone", y.stepsDone(2), 0);
    }

    private static void sizeAfterSteps() {
        MaskPlays x = Dues.told(LONG + "play m is " + ODD + "; play n is [mask x([x x]) m]; play p is [i [i n]];"
                + " play g is [mask x([x x x]) mask x([x x x])];");
        long before = x.digest();
        for (int steps = 0; steps <= 40; steps++) {
            Dues.due("of 40", x.sizeAfterSteps(5, steps), 121 - 3 * steps);
            Dues.due("of 41", x.sizeAfterSteps(6, steps), 124 - 3 * steps);
            Dues.due("of 8", x.sizeAfterSteps(1, steps), 25 - 3 * Math.min(8, steps));
            Dues.due("of none", x.sizeAfterSteps(0, steps), 2);
            Dues.due("up to one that cannot be done", x.sizeAfterSteps(9, steps), 80 + 6 - 3 * Math.min(2, steps));
            Dues.due("up to 146 parts", x.sizeAfterSteps(10, steps), 13 + 7 * Math.min(19, steps));
        }
        Dues.due("digest", x.digest(), before);
    }

    private static void not0To40Steps() {
        MaskPlays x = Dues.told(LONG);
        long before = x.digest();
        Dues.due("0 steps", x.sizeAfterSteps(5, 0), 121);
        Dues.due("40 steps", x.sizeAfterSteps(5, 40), 1);
        for (int steps : new int[] {-1, 41, Integer.MIN_VALUE, Integer.MAX_VALUE}) {
            Dues.dueThrow("steps " + steps, IllegalArgumentException.class, () -> x.sizeAfterSteps(5, steps));
            Dues.dueThrow("steps " + steps + " of a finished play", IllegalArgumentException.class,
                    () -> x.sizeAfterSteps(0, steps));
        }
        Dues.due("digest", x.digest(), before);
    }

    private static void endSame() {
        MaskPlays x = Dues.told(LONG + "play k is a; play y is [i [i mask w(w)]]; play l is [i a];");
        long before = x.digest();
        dueEnd(x, 5, 7, true);
        dueEnd(x, 6, 7, false);
        dueEnd(x, 6, 9, false);
        dueEnd(x, 1, 5, true);
        dueEnd(x, 0, 8, true);
        dueEnd(x, 0, 7, false);
        dueEnd(x, 6, 6, true);
        dueEnd(x, 9, 1, true);
        Dues.due("digest", x.digest(), before);
        // One step nearer to its end the 40 steps are enough.
        x.doStep(6);
        dueEnd(x, 6, 7, true);
        dueEnd(x, 6, 9, true);
        MaskPlays y = Dues.told("actor a; " + ID + "play m is " + ODD + "; play n is [mask x([x x]) m];"
                + " play p is [i [i n]]; play o is [mask x([x x]) mask x([x x])]; play q is [mask x([x [x x]]) a];");
        dueEnd(y, 2, 3, true);
        dueEnd(y, 1, 2, false);
        dueEnd(y, 4, 4, true);
        dueEnd(y, 4, 5, false);
    }

    private static void dueEnd(MaskPlays x, int a, int b, boolean want) {
        Dues.due("endSame(" + a + ", " + b + ")", x.endSame(a, b), want);
        Dues.due("endSame(" + b + ", " + a + ")", x.endSame(b, a), want);
    }

    // ---- evenings that would be

    private static void sizeAfterEvenings() {
        MaskPlays x = Dues.told(LONG + "play c is a; step s40; step s8; renew s8 when evening=18;"
                + " give c to c when steps s40=20; give c to c when evening=19;");
        long before = x.digest();
        for (int evenings = 1; evenings <= 20; evenings++) {
            Dues.due("s40", x.sizeAfterEvenings(5, evenings), 121 - 3 * evenings);
            int steps = evenings < 19 ? Math.min(8, evenings) : evenings - 19;
            Dues.due("s8", x.sizeAfterEvenings(1, evenings), 25 - 3 * steps);
            Dues.due("s16", x.sizeAfterEvenings(2, evenings), 49);
            Dues.due("c", x.sizeAfterEvenings(7, evenings), evenings < 20 ? 1 : 7);
            Dues.due("digest", x.digest(), before);
        }
        x.passEvenings(1);
        x.doStep(5);
        Dues.due("from now on", x.sizeAfterEvenings(5, 1), 121 - 9);
        Dues.due("c from now on", x.sizeAfterEvenings(7, 19), 7);
        Dues.due("c from now on", x.sizeAfterEvenings(7, 18), 3);
        Dues.due("stepsDone", x.stepsDone(5), 2);
        Dues.due("evenings", x.evenings(), 1);
    }

    private static void noEveningsThatWouldBe() {
        MaskPlays z = Dues.told(LONG + "step s40;");
        dueNotOneTo20(z, evenings -> z.sizeAfterEvenings(5, evenings));
        Dues.due("1 evening", z.sizeAfterEvenings(5, 1), 118);
        Dues.due("20 evenings", z.sizeAfterEvenings(5, 20), 61);
    }

    private static void eveningsUntilFinished() {
        MaskPlays x = Dues.told(LONG + "play t is [i [i [i [i s16]]]]; play u is [i t]; play v is [i a]; step s8; step s16;"
                + " step t; step u; step v; renew v when evening<5; give i to v when evening=7;");
        long before = x.digest();
        Dues.due("now", x.eveningsUntilFinished(0), 0);
        Dues.due("behind 8", x.eveningsUntilFinished(1), 8);
        Dues.due("behind 16", x.eveningsUntilFinished(2), 16);
        Dues.due("never stepped", x.eveningsUntilFinished(3), -1);
        Dues.due("behind 20", x.eveningsUntilFinished(7), 20);
        Dues.due("behind 21", x.eveningsUntilFinished(8), -1);
        // Finished within an evening it is not so behind it; and the first time is told.
        Dues.due("v", x.eveningsUntilFinished(9), 6);
        Dues.due("digest", x.digest(), before);
        x.doStep(8);
        Dues.due("behind 20 now", x.eveningsUntilFinished(8), 20);
        x.passEvenings(1);
        Dues.due("behind 19", x.eveningsUntilFinished(8), 19);
        Dues.due("behind 5", x.eveningsUntilFinished(9), 5);
        x.passEvenings(7);
        Dues.due("now", x.eveningsUntilFinished(1), 0);
        Dues.due("evenings", x.evenings(), 8);
    }

    // ---- the best gift

    private static void gifts() {
        // To f and then to g: one step, and two, and then all those of what is given.
        MaskPlays x = Dues.told("actor a; play l is [mask x(x) [mask x(x) a]]; play m is [mask x(x) a]; play n is a;"
                + " play f is mask y([a y]); play g is [mask w(w) f];");
        Dues.due("to f", x.bestGift(3), 2);
        Dues.due("to g", x.bestGift(4), 2);
        Dues.due("to n", x.bestGift(2), 2);
        // As the plays are now.
        x.give(1, 2);
        x.give(1, 3);
        x.renew(3);
        Dues.due("to f, where n has one step now", x.bestGift(3), 3);
        Dues.due("to n, which is as long as m", x.bestGift(2), 3);
        fortyAtMost();
        theyCanBeGiven();
    }

    /** Each of these plays has a step at least: so a gift to one of 39 steps makes 40, to one of 40 too many. */
    private static void fortyAtMost() {
        String seven = "[mask x(x) ".repeat(7);
        StringBuilder book = new StringBuilder("actor a; play t1 is [mask x(x) a]; ");
        for (int n = 8; n <= 36; n += 7) {
            book.append("play t").append(n).append(" is ").append(seven).append('t').append(n - 7).append("]]]]]]]; ");
        }
        String begun = book.toString();
        MaskPlays x = Dues.told(begun + "play p is [mask x(x) [mask x(x) [mask x(x) t36]]]; play q is [mask x(x) p];");
        Dues.due("steps of p", x.stepsToFinish(6), 39);
        Dues.due("39 steps and 1", x.bestGift(6), 0);
        Dues.due("steps of q", x.stepsToFinish(7), 40);
        Dues.due("40 steps and 1", x.bestGift(7), -1);
        x.doStep(0);
        Dues.due("40 steps and none", x.bestGift(7), 0);
        MaskPlays y = Dues.told(begun + "play p is [mask x(x) [mask x(x) [mask x(x) [mask x(x) t36]]]]; play q is a;");
        Dues.due("40 steps and 1, or none", y.bestGift(6), 7);
    }

    private static void theyCanBeGiven() {
        String even = "mask u([" + "a ".repeat(37) + "])";
        MaskPlays x = Dues.told("actor a; play p is " + ODD + "; play q is " + even + "; play r is " + ODD + "; play s is a;");
        Dues.due("151 parts, 150 parts", x.bestGift(2), 1);
        Dues.due("the first of those with 150 parts", x.bestGift(0), 1);
        Dues.due("77 parts", x.bestGift(3), 0);
        MaskPlays y = Dues.told("actor a; play p is mask x([" + "a ".repeat(75) + "]); play q is " + ODD + ";");
        Dues.due("none can be given to 150 parts", y.bestGift(0), -1);
        Dues.due("none can be given to 75 parts", y.bestGift(1), -1);
    }

    private static void theBestGift() {
        String loop = "[mask x([x x]) mask x([x x])]";
        StringBuilder book = new StringBuilder("actor a; ");
        for (int n = 0; n < 10; n++) {
            book.append("play o").append(n).append(" is ").append(n == 0 ? loop : "o0").append("; ");
        }
        MaskPlays x = Dues.told(book + "play f is [mask w(w) mask y([a y])]; play t is mask x(x);");
        long before = x.digest();
        Dues.due("the last one of twelve", x.bestGift(10), 11);
        Dues.due("never finished", x.bestGift(0), -1);
        Dues.due("digest", x.digest(), before);
        MaskPlays y = Dues.told(book + "play f is [mask w(w) mask y([a y])]; play t is f;");
        Dues.due("of two the smallest number", y.bestGift(10), 10);
        Dues.due("of two the smallest number", y.bestGift(11), 10);
        MaskPlays first = Dues.told("actor a; play p is a; play q is a; play r is a;");
        for (int play = 0; play < 3; play++) {
            Dues.due("of three the smallest number", first.bestGift(play), 0);
        }
        MaskPlays self = Dues.told("play p is " + loop + "; play i is mask x(x);");
        Dues.due("only itself", self.bestGift(1), 1);
        MaskPlays none = Dues.told("play p is mask x([x x]);");
        Dues.due("by none", none.bestGift(0), -1);
        // By the second step of the first one there would be 151 parts, so this is not finished so.
        MaskPlays large = Dues.told("actor a; play q is [" + "a ".repeat(20) + "]; play r is [" + "a ".repeat(18)
                + "]; play p is mask x([x x x x]);");
        Dues.due("159 parts, 143 parts", large.bestGift(2), 1);
    }

    // ---- sums of all

    private static void meanSize() {
        dueMean("", 0.0);
        dueMean("actor a; actor b;", 0.0);
        dueMean("actor a; play p is a;", 1.0);
        dueMean("actor a; play p is a; play q is mask x(a);", 1.5);
        dueMean("actor a; play p is a; play q is mask x(a); play r is a;", 4.0 / 3.0);
        StringBuilder book = new StringBuilder("actor a; play p0 is mask x([" + "a ".repeat(75) + "]); ");
        double all = 150;
        for (int n = 1; n < 12; n++) {
            book.append("play p").append(n).append(n == 11 ? " is a; " : " is p0; ");
            all += n == 11 ? 1 : 150;
        }
        dueMean(book.toString(), all / 12);
        MaskPlays x = Dues.told("actor a; play p is a; play q is mask x(a); play r is a;");
        x.give(0, 1);
        Dues.due("behind a gift", Double.doubleToLongBits(x.meanSize()), Double.doubleToLongBits(2.0));
        // Those of earlier playbooks are none of them.
        for (int n = 0; n < 3; n++) {
            Dues.due("teach twelve", Dues.teach(x, book.toString()), 0);
            Dues.due("of twelve", Double.doubleToLongBits(x.meanSize()), Double.doubleToLongBits(all / 12));
            Dues.due("teach one", Dues.teach(x, "actor a; play p is [a a];"), 0);
            Dues.due("of one", Double.doubleToLongBits(x.meanSize()), Double.doubleToLongBits(3.0));
            Dues.due("teach one", Dues.teach(x, "actor a; play p is a;"), 0);
            Dues.due("of one", Double.doubleToLongBits(x.meanSize()), Double.doubleToLongBits(1.0));
            x.teach();
            Dues.due("without any again", Double.doubleToLongBits(x.meanSize()), Double.doubleToLongBits(0.0));
        }
    }

    private static void dueMean(String book, double want) {
        double got = Dues.told(book).meanSize();
        Dues.due("meanSize of " + book, Double.doubleToLongBits(got), Double.doubleToLongBits(want));
    }

    private static void digest() {
        Dues.due("of nothing", new MaskPlays().digest(), 941L * 31 * 31 * 31 * 31 * 31 * 31);
        MaskPlays x = Dues.told("actor a; actor b; actor c; play p is [mask x(mask y([a [y x]])) mask z(b)];"
                + " play q is [[a b] [b b]]; play r is [p q]; step p; step r; give q to q when evening=1;");
        dueDigest(x);
        Dues.feed(x, "12345");
        dueDigest(x);
        x.passEvenings(1);
        dueDigest(x);
        x.passEvenings(20);
        dueDigest(x);
        dueDigest(Dues.told("play p is mask x(x);"));
        dueDigest(Dues.told("actor a;"));
        dueDigest(Dues.told(LONG + "step s8; step s16; step s24; step s32; step s40; step s41;"));
    }

    private static void whatDigestReturns() {
        MaskPlays one = Dues.told("play p is mask x(x);");
        Dues.due("of one play, number by number", one.digest(), digestOf(0, 1, 0, 0, 0, 0, 2, 1, 0, 1, 0, 1, 1, 9, 'm', 'a',
                's', 'k', ' ', 'x', '(', 'x', ')'));
        Dues.due("the same again", one.digest(), one.digest());
    }

    private static long digestOf(long... numbers) {
        long d = 941;
        for (long x : numbers) {
            d = d * 31 + x;
        }
        return d;
    }

    /** By the answers of the other calls. */
    private static void dueDigest(MaskPlays x) {
        long d = digestOf(x.actors(), x.plays(), x.notes(), x.evenings(), x.notesCarriedOut(), x.tapeBytes());
        for (int play = 0; play < x.plays(); play++) {
            long[] numbers = {x.sizeOf(play), x.masksIn(play), x.scenesIn(play), x.mostMasksAround(play),
                x.stepsDone(play), x.isFinished(play) ? 1 : 0, x.isAsTold(play) ? 1 : 0, x.textLength(play)};
            for (long number : numbers) {
                d = d * 31 + number;
            }
            for (int place = 0; place < x.textLength(play); place++) {
                d = d * 31 + x.letterAt(play, place);
            }
            for (int actor = 0; actor < x.actors(); actor++) {
                d = d * 31 + x.standsIn(play, actor);
            }
        }
        Dues.due("digest", x.digest(), d);
    }
}
