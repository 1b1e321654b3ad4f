/** Promises 30 to 32 and 35 to 37: steps that would be, the best gift, the mean size, the digest. */
final class WouldBeTest {
    /** Plays 1 to 6 are finished behind 8, 16, 24, 32, 40 and 41 steps. */
    private static final String LONG = "actor a; play i is mask x(x); play s8 is " + eightMore("a")
            + "play s16 is " + eightMore("s8") + "play s24 is " + eightMore("s16") + "play s32 is " + eightMore("s24")
            + "play s40 is " + eightMore("s32") + "play s41 is [i s40]; ";

    private WouldBeTest() {
    }

    private static String eightMore(String part) {
        return "[i ".repeat(8) + part + "]".repeat(8) + "; ";
    }

    public static void main(String[] args) {
        stepsToFinish();
        sizeAfterSteps();
        endSame();
        bestGift();
        theLimitOfGifts();
        meanSize();
        digest();
        noSuchPlay();
        Dues.end();
    }

    private static void stepsToFinish() {
        MaskPlays x = Dues.told(LONG + "play o is [mask x([x x]) mask x([x x])]; play d is [" + "a ".repeat(38) + "];"
                + " play t is [i [mask x([x x]) d]]; play u is [mask x(a) [mask x([x x]) d]];");
        long before = x.digest();
        Dues.due("now", x.stepsToFinish(0), 0);
        for (int n = 1; n <= 5; n++) {
            Dues.due("behind " + 8 * n, x.stepsToFinish(n), 8 * n);
        }
        Dues.dueThrow("behind 41", IllegalStateException.class, () -> x.stepsToFinish(6));
        Dues.dueThrow("never", IllegalStateException.class, () -> x.stepsToFinish(7));
        Dues.dueThrow("too large behind one", IllegalStateException.class, () -> x.stepsToFinish(9));
        // What is dropped is never stepped.
        Dues.due("u", x.stepsToFinish(10), 1);
        Dues.due("digest", x.digest(), before);
        x.doStep(6);
        Dues.due("behind 40 now", x.stepsToFinish(6), 40);
    }

    private static void sizeAfterSteps() {
        MaskPlays x = Dues.told(LONG + "play g is [mask x([x x x]) mask x([x x x])]; play m is [" + "a ".repeat(38)
                + "]; play t is [i [mask x([x x]) m]];");
        long before = x.digest();
        Dues.due("0 steps", x.sizeAfterSteps(5, 0), 121);
        Dues.due("1 step", x.sizeAfterSteps(5, 1), 118);
        Dues.due("39 steps", x.sizeAfterSteps(5, 39), 4);
        Dues.due("40 steps", x.sizeAfterSteps(5, 40), 1);
        Dues.due("40 steps of 41", x.sizeAfterSteps(6, 40), 4);
        Dues.due("40 steps of 8", x.sizeAfterSteps(1, 40), 1);
        Dues.due("finished", x.sizeAfterSteps(0, 7), 2);
        // It grows by 7 with each step: 13, 20 and so on, up to 146.
        Dues.due("1 step", x.sizeAfterSteps(7, 1), 20);
        Dues.due("19 steps", x.sizeAfterSteps(7, 19), 146);
        Dues.due("20 steps", x.sizeAfterSteps(7, 20), 146);
        Dues.due("too large behind one", x.sizeAfterSteps(9, 5), 80);
        for (int steps : new int[] {-1, 41, Integer.MIN_VALUE, Integer.MAX_VALUE}) {
            Dues.dueThrow("steps " + steps, IllegalArgumentException.class, () -> x.sizeAfterSteps(0, steps));
            Dues.dueThrow("no play, steps " + steps, IndexOutOfBoundsException.class,
                    () -> x.sizeAfterSteps(10, steps));
        }
        Dues.due("digest", x.digest(), before);
        Dues.due("stepsDone", x.stepsDone(5), 0);
    }

    private static void endSame() {
        MaskPlays x = Dues.told(LONG + "play k is a; play y is [i mask y(y)]; play g is [mask x([x x x])"
                + " mask x([x x x])]; play m is [" + "a ".repeat(38) + "]; play t is [i [mask x([x x]) m]];");
        long before = x.digest();
        Dues.due("8 and 40 steps", x.endSame(1, 5), true);
        Dues.due("40 steps and none", x.endSame(5, 7), true);
        Dues.due("none and 40 steps", x.endSame(7, 5), true);
        Dues.due("41 steps", x.endSame(6, 7), false);
        Dues.due("41 steps", x.endSame(7, 6), false);
        Dues.due("itself", x.endSame(6, 6), true);
        Dues.due("another name", x.endSame(0, 8), true);
        Dues.due("one that grows", x.endSame(9, 9), true);
        Dues.due("one that grows, and a", x.endSame(9, 7), false);
        Dues.due("a step that cannot be done", x.endSame(11, 11), true);
        Dues.due("a step that cannot be done", x.endSame(11, 7), false);
        Dues.due("digest", x.digest(), before);
    }

    private static void bestGift() {
        // A gift to s comes ahead of an a: so it is best, if it does nothing with it.
        MaskPlays x = Dues.told("actor a; actor b; play g3 is mask x([mask y(y) x]); play id is mask x(x);"
                + " play g1 is b; play g0 is a; play s is mask f([f a]); play o is [mask x([x x]) mask x([x x])];"
                + " play c is mask f([f f]);");
        long before = x.digest();
        Dues.due("the first of those with one step", x.bestGift(4), 2);
        // In g3 there is a ready scene, so id is finished sooner behind a name.
        Dues.due("to a name", x.bestGift(3), 1);
        Dues.due("to one that is never finished", x.bestGift(5), -1);
        // [id g] is g behind one step, and [g3 g] is [mask y(y) g] ahead of this.
        Dues.due("to id", x.bestGift(1), 1);
        Dues.due("to g3", x.bestGift(0), 1);
        // [c g] is [g g]: for a name it is finished then, for others it goes on.
        Dues.due("to c", x.bestGift(6), 2);
        Dues.due("digest", x.digest(), before);
        // As the plays are now.
        x.give(5, 2);
        Dues.due("behind a gift", x.bestGift(4), 3);
        MaskPlays y = Dues.told("play p is mask x([x x]); play q is [p p]; play r is mask x([x [x x]]);");
        Dues.due("none", y.bestGift(1), -1);
        Dues.due("itself is no good", y.bestGift(0), -1);
        MaskPlays z = Dues.told("play q is [mask x([x x]) mask x([x x])]; play p is mask x(x);");
        Dues.due("only itself", z.bestGift(1), 1);
    }

    private static void theLimitOfGifts() {
        MaskPlays x = Dues.told(LONG);
        Dues.due("behind 40 steps", x.bestGift(5), 0);
        Dues.due("behind 41 steps", x.bestGift(6), -1);
        // Only q has room behind p; 151 parts would be too many.
        String names = "a ".repeat(73);
        MaskPlays y = Dues.told("actor a; play p is [" + names + "]; play q is [a a]; play r is [a a a];");
        Dues.due("145 and 3 parts", y.bestGift(0), 1);
        MaskPlays z = Dues.told("actor a; play p is [" + "a ".repeat(75) + "]; play q is [a a a]; play r is a;");
        Dues.due("149 and 1 parts", z.bestGift(0), -1);
        Dues.due("p is too large", z.bestGift(1), 1);
        MaskPlays w = Dues.told("actor a; play p is mask x([" + "a ".repeat(74) + "x]); play q is a;"
                + " play r is mask x([" + "a ".repeat(74) + "]); play d is [mask x([x x]) mask x([x x])];");
        Dues.due("150 and 1 parts", w.bestGift(0), -1);
        Dues.due("148 and 1 parts", w.bestGift(2), 1);
        // A step on the way that cannot be done.
        MaskPlays v = Dues.told("actor a; play p is mask x([x x x x]); play q is [" + "a ".repeat(20) + "];"
                + " play r is [" + "a ".repeat(18) + "];");
        Dues.due("159 and 143 parts", v.bestGift(0), 2);
    }

    private static void meanSize() {
        dueMean("", 0.0);
        dueMean("actor a;", 0.0);
        dueMean("actor a; play p is a;", 1.0);
        dueMean("actor a; play p is a; play q is mask x(a);", 1.5);
        dueMean("actor a; play p is a; play q is mask x(a); play r is a;", 4.0 / 3.0);
        MaskPlays x = Dues.told("actor a; play p is a; play q is mask x(a); play r is a;");
        x.give(0, 1);
        Dues.due("behind a gift", x.meanSize() == 2.0, true);
    }

    private static void dueMean(String book, double want) {
        double got = Dues.told(book).meanSize();
        Dues.due("meanSize of " + book, Double.doubleToLongBits(got), Double.doubleToLongBits(want));
    }

    private static void digest() {
        Dues.due("digest of nothing", new MaskPlays().digest(), digestOf(0, 0, 0, 0, 0, 0));
        MaskPlays x = Dues.told("actor a; actor b; play p is [mask x(x) a]; play q is b; step p; step q;");
        Dues.due("digest", x.digest(), digestOf(2, 2, 2, 0, 0, 0, 4, 1, 1, 1, 0, 0, 1, 13,
                '[', 'm', 'a', 's', 'k', ' ', 'x', '(', 'x', ')', ' ', 'a', ']', 1, 0,
                1, 0, 0, 0, 0, 1, 1, 1, 'b', 0, 1));
        x.passEvenings(3);
        Dues.feed(x, "abc");
        Dues.due("digest", x.digest(), digestOf(2, 2, 2, 3, 1, 3, 1, 0, 0, 0, 1, 1, 0, 1, 'a', 1, 0,
                1, 0, 0, 0, 0, 1, 1, 1, 'b', 0, 1));
    }

    private static long digestOf(long... numbers) {
        long d = 941;
        for (long x : numbers) {
            d = d * 31 + x;
        }
        return d;
    }

    private static void noSuchPlay() {
        MaskPlays x = Dues.told("actor a; play p is [mask x(x) a];");
        long before = x.digest();
        for (int play : new int[] {-1, 1, 12, Integer.MIN_VALUE, Integer.MAX_VALUE}) {
            Dues.dueThrow("stepsToFinish", IndexOutOfBoundsException.class, () -> x.stepsToFinish(play));
            Dues.dueThrow("sizeAfterSteps", IndexOutOfBoundsException.class, () -> x.sizeAfterSteps(play, 1));
            Dues.dueThrow("endSame", IndexOutOfBoundsException.class, () -> x.endSame(play, 0) ? 1 : 0);
            Dues.dueThrow("endSame", IndexOutOfBoundsException.class, () -> x.endSame(0, play) ? 1 : 0);
            Dues.dueThrow("bestGift", IndexOutOfBoundsException.class, () -> x.bestGift(play));
        }
        Dues.due("digest", x.digest(), before);
    }
}
