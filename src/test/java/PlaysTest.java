/** Promises 12 to 28: what a play is, and what is done by hand. */
final class PlaysTest {
    private static final String NINE_NAMES = "[mask z0(mask z1(mask z2(a))) mask z3(mask z4(a))"
            + " mask z5(mask z6(mask z7(mask z8(a))))]; ";
    private static final int[] NO_PLAYS = {-1, 1, 12, Integer.MIN_VALUE, Integer.MAX_VALUE};

    private PlaysTest() {
    }

    public static void main(String[] args) {
        counts();
        standing();
        texts();
        nextScenes();
        steps();
        renaming();
        renamingOfSeveral();
        renamingBehindAnotherStep();
        manyFreshNames();
        noRenaming();
        actorsWithNamesOfMasks();
        stepsThatAreTooLarge();
        sameness();
        asTold();
        giving();
        renewing();
        noSuchPlay();
        Dues.end();
    }

    private static void counts() {
        MaskPlays x = Dues.told("actor a; play p is a; play q is mask x(a);"
                + " play r is [mask x(mask y([x y a])) mask x(x) a]; play s is [r q r];");
        long[][] want = {{1, 0, 0, 0}, {2, 1, 0, 1}, {12, 3, 4, 2}, {28, 7, 10, 2}};
        for (int play = 0; play < want.length; play++) {
            Dues.due("sizeOf " + play, x.sizeOf(play), want[play][0]);
            Dues.due("masksIn " + play, x.masksIn(play), want[play][1]);
            Dues.due("scenesIn " + play, x.scenesIn(play), want[play][2]);
            Dues.due("mostMasksAround " + play, x.mostMasksAround(play), want[play][3]);
        }
        // The name with the most masks around it may stand ahead of others.
        x = Dues.told("play p is mask x([mask y(mask w(x)) mask v(v) x]);");
        Dues.due("mostMasksAround", x.mostMasksAround(0), 3);
        Dues.due("stepsDone", x.stepsDone(0), 0);
    }

    private static void standing() {
        MaskPlays x = Dues.told("actor a; actor b; actor c; play p is mask x([a mask y([x a]) b]);"
                + " play q is [p p a]; play r is mask v(mask u(v)); actor v; play s is [r v];");
        Dues.due("a in p", x.standsIn(0, 0), 2);
        Dues.due("b in p", x.standsIn(0, 1), 1);
        Dues.due("c in p", x.standsIn(0, 2), 0);
        Dues.due("a in q", x.standsIn(1, 0), 5);
        Dues.due("v in r", x.standsIn(2, 3), 0);
        Dues.due("v in s", x.standsIn(3, 3), 1);
        Dues.dueThrow("actor -1", IndexOutOfBoundsException.class, () -> x.standsIn(0, -1));
        Dues.dueThrow("actor 4", IndexOutOfBoundsException.class, () -> x.standsIn(0, 4));
        Dues.dueThrow("actor most", IndexOutOfBoundsException.class, () -> x.standsIn(0, Integer.MAX_VALUE));
        Dues.dueThrow("play 4", IndexOutOfBoundsException.class, () -> x.standsIn(4, 0));
    }

    private static void texts() {
        MaskPlays x = Dues.told("actor a; actor abcdefghi9; play p is a; play q is [ a abcdefghi9\na ];"
                + " play r is mask x( mask y1 ([x [y1 a]]) ); play s is [p [q r]];");
        Dues.dueText(x, 0, "a");
        Dues.dueText(x, 1, "[[a abcdefghi9] a]");
        Dues.dueText(x, 2, "mask x(mask y1([x [y1 a]]))");
        Dues.dueText(x, 3, "[a [[[a abcdefghi9] a] mask x(mask y1([x [y1 a]]))]]");
        Dues.due("textLength", x.textLength(1), 18);
        Dues.due("letterAt 0", x.letterAt(1, 0), '[');
        Dues.due("letterAt 17", x.letterAt(1, 17), ']');
        for (int place : new int[] {-1, 18, Integer.MIN_VALUE, Integer.MAX_VALUE}) {
            Dues.dueThrow("letterAt " + place, IndexOutOfBoundsException.class, () -> x.letterAt(1, place));
        }
        Dues.dueThrow("letterAt 1", IndexOutOfBoundsException.class, () -> x.letterAt(0, 1));
        theLongestText();
    }

    /** Masks within masks, with the longest names: as many as one play can have. */
    private static void theLongestText() {
        StringBuilder book = new StringBuilder("actor a; play m is mask x(x); ");
        book.append("play p0 is ").append("mask abcdefghij(".repeat(8)).append("a").append(")".repeat(8)).append(";");
        String text = "mask abcdefghij(".repeat(8) + "a" + ")".repeat(8);
        for (int n = 1; n <= 8; n++) {
            book.append("play p").append(n).append(" is ").append("mask abcdefghij(".repeat(8)).append("p")
                    .append(n - 1).append(")".repeat(8)).append(";");
            text = "mask abcdefghij(".repeat(8) + text + ")".repeat(8);
        }
        book.append("play q is [p8 p8];");
        MaskPlays x = Dues.told(book.toString());
        Dues.due("sizeOf", x.sizeOf(10), 147);
        Dues.due("mostMasksAround", x.mostMasksAround(10), 72);
        Dues.dueText(x, 10, "[" + text + " " + text + "]");
        Dues.due("doStep", x.doStep(10), 72);
        Dues.dueText(x, 10, text.substring("mask abcdefghij(".length(), text.length() - 1));
    }

    private static void nextScenes() {
        MaskPlays x = Dues.told("actor a; actor b; play p is [[mask x(x) a] [mask y(y) b]];"
                + " play q is mask w([mask y(y) w]); play r is [mask x(x) [mask y(y) a]];"
                + " play s is [a mask x(x)]; play t is [mask x([mask y(y) x]) a];");
        Dues.due("p", x.nextSceneAt(0), 1);
        Dues.due("doStep", x.doStep(0), 6);
        Dues.dueText(x, 0, "[a [mask y(y) b]]");
        Dues.due("p", x.nextSceneAt(0), 3);
        Dues.due("doStep", x.doStep(0), 3);
        Dues.dueText(x, 0, "[a b]");
        Dues.dueThrow("p", IllegalStateException.class, () -> x.nextSceneAt(0));
        Dues.due("q", x.nextSceneAt(1), 7);
        Dues.due("r", x.nextSceneAt(2), 0);
        x.doStep(2);
        Dues.dueText(x, 2, "[mask y(y) a]");
        Dues.dueThrow("s", IllegalStateException.class, () -> x.nextSceneAt(3));
        Dues.due("s is finished", x.isFinished(3), true);
        Dues.due("s can step", x.canStep(3), false);
        Dues.due("t", x.nextSceneAt(4), 0);
        x.doStep(4);
        Dues.dueText(x, 4, "[mask y(y) a]");
    }

    private static void steps() {
        Dues.dueStep("[mask x([x x]) a]", "[a a]", 0);
        Dues.dueStep("[mask x(b) a]", "b", 0);
        Dues.dueStep("[mask x(x) mask x(x)]", "mask x(x)", 0);
        Dues.dueStep("[mask x([x x]) mask x([x x])]", "[mask x([x x]) mask x([x x])]", 0);
        Dues.dueStep("[mask x(mask y([y [x [b x]]])) [a b]]", "mask y([y [[a b] [b [a b]]]])", 0);
        Dues.dueStep("[mask x(mask x(x)) a]", "mask x(x)", 0);
        Dues.dueStep("[mask x([x mask x([x mask y(x)])]) a]", "[a mask x([x mask y(x)])]", 0);
        Dues.dueStep("[mask x([mask y([x y]) x]) a b]", "[[mask y([a y]) a] b]", 0);
        Dues.dueStep("mask y([y [b [mask x([y x]) y]] a])", "mask y([[y [b [y y]]] a])", 0);
        MaskPlays x = Dues.told("actor a; play p is [mask x(x) mask x(x) mask x(x) a]; play q is p;");
        for (int n = 3; n > 0; n--) {
            Dues.due("isFinished", x.isFinished(0), false);
            Dues.due("canStep", x.canStep(0), true);
            Dues.due("doStep", x.doStep(0), 3 * n - 2);
        }
        Dues.due("isFinished", x.isFinished(0), true);
        Dues.dueThrow("doStep", IllegalStateException.class, () -> x.doStep(0));
        Dues.dueThrow("renamedByStep", IllegalStateException.class, () -> x.renamedByStep(0));
        Dues.due("stepsDone", x.stepsDone(0), 3);
        Dues.due("stepsDone of the other", x.stepsDone(1), 0);
        Dues.due("size of the other", x.sizeOf(1), 10);
    }

    private static void renaming() {
        Dues.dueStep("mask y([mask x(mask y([x y])) y])", "mask y(mask z0([y z0]))", 1);
        Dues.dueStep("mask y([mask x(mask y(x)) y])", "mask y(mask z0(y))", 1);
        Dues.dueStep("mask y([mask x(mask y([x y])) [a y]])", "mask y(mask z0([[a y] z0]))", 1);
        // z0 is the name of something below it: of a mask, a use, an actor, or the mask taken off.
        Dues.dueStep("mask y([mask x(mask y([x y mask z0(a)])) y])", "mask y(mask z1([[y z1] mask z0(a)]))", 1);
        Dues.dueStep("mask z0(mask y([mask x(mask y([x [y z0]])) y]))", "mask z0(mask y(mask z1([y [z1 z0]])))", 1);
        Dues.dueStep("actor z0; ", "mask y([mask x(mask y([x z0])) y])", "mask y(mask z1([y z0]))", 1);
        Dues.dueStep("mask y([mask z0(mask y([z0 y])) y])", "mask y(mask z1([y z1]))", 1);
        // z0 is an open name of the second part.
        Dues.dueStep("mask z0(mask y([mask x(mask y([x y])) [y z0]]))", "mask z0(mask y(mask z1([[y z0] z1])))", 1);
        Dues.dueStep("actor z0; ", "mask y([mask x(mask y([x y])) [y z0]])", "mask y(mask z1([[y z0] z1]))", 1);
        // z0 is a name elsewhere: around it, or of a mask in the second part.
        Dues.dueStep("mask z0(mask y([mask x(mask y([x y])) y z0]))", "mask z0(mask y([mask z0([y z0]) z0]))", 1);
        Dues.dueStep("mask y([mask x(mask y([x y])) [y mask z0(z0)]])", "mask y(mask z0([[y mask z0(z0)] z0]))", 1);
        Dues.dueStep("mask y([mask x([x mask z0(mask y([x y]))]) y])", "mask y([y mask z0(mask z0([y z0]))])", 1);
        // The names below are ruled out also if they stand under a mask with the name of the renamed one.
        Dues.dueStep("mask y([mask x(mask y([x y mask y([y mask z0(y)])])) y])",
                "mask y(mask z1([[y z1] mask y([y mask z0(y)])]))", 1);
        // A mask can get its name from an earlier number, also if it is that of another mask now.
        Dues.dueStep("mask z0([mask x(mask z0([x z0])) z0])", "mask z0(mask z1([z0 z1]))", 1);
        Dues.dueStep("mask z1([mask x(mask z1([x z1])) z1])", "mask z1(mask z0([z1 z0]))", 1);
        Dues.dueStep("mask y([mask x(mask y([x y mask z0(mask z1(mask z3(a)))])) y])",
                "mask y(mask z2([[y z2] mask z0(mask z1(mask z3(a)))]))", 1);
    }

    private static void renamingOfSeveral() {
        // The outer one gets its name first; the use of it is below the inner one.
        Dues.dueStep("mask y(mask w([mask x(mask y(mask w([x y w]))) [y w]]))",
                "mask y(mask w(mask z0(mask z1([[[y w] z0] z1]))))", 2);
        // No use of the outer one is below the inner one, so this can get the same name.
        Dues.dueStep("mask y(mask w([mask x(mask y(mask w([x w]))) [y w]]))",
                "mask y(mask w(mask z0(mask z0([[y w] z0]))))", 2);
        Dues.dueStep("mask y([mask x(mask y(mask y([x y]))) y])", "mask y(mask z0(mask z0([y z0])))", 2);
        // Beside one another they have nothing to do with one another.
        Dues.dueStep("mask y([mask x([mask y([x y]) mask y([y [x y]])]) y])",
                "mask y([mask z0([y z0]) mask z0([z0 [y z0]])])", 2);
        // The one in the middle stays.
        Dues.dueStep("mask y([mask x(mask y(mask v(mask y([x [v y]])))) y])",
                "mask y(mask z0(mask v(mask z0([y [v z0]]))))", 2);
    }

    /** The open names of an earlier step are nothing to the next one. */
    private static void renamingBehindAnotherStep() {
        MaskPlays x = Dues.told("actor a; play p is mask y([mask x(x) y]);"
                + " play q is [mask x(mask y([x y])) a]; play r is mask y([mask x(mask y([x y])) y]);");
        x.doStep(0);
        Dues.due("renamedByStep q", x.renamedByStep(1), 0);
        Dues.due("renamedByStep r", x.renamedByStep(2), 1);
        Dues.due("renamedByStep q", x.renamedByStep(1), 0);
        x.doStep(1);
        Dues.dueText(x, 1, "mask y([a y])");
        x.doStep(2);
        Dues.dueText(x, 2, "mask y(mask z0([y z0]))");
    }

    private static void manyFreshNames() {
        Dues.dueStep("mask y([mask x(mask y(mask z0(x))) y])", "mask y(mask z1(mask z0(y)))", 1);
        dueFresh("play nine is " + NINE_NAMES, "mask y([mask x(mask y([x y [nine mask z9(a)]])) y])", 10);
        dueFresh("play nine is " + NINE_NAMES, "mask y([mask x(mask y([x y [nine mask z10(a)]])) y])", 9);
        // z0 to z71 in nine plays, all of them below the mask.
        StringBuilder plays = new StringBuilder("play k0 is a; ");
        for (int n = 1; n <= 9; n++) {
            plays.append("play k").append(n).append(" is ");
            for (int mask = 8 * n - 8; mask < 8 * n; mask++) {
                plays.append("mask z").append(mask).append('(');
            }
            plays.append('k').append(n - 1).append(")))))))); ");
        }
        dueFresh(plays.toString(), "mask y([mask x(mask y([x y k9])) y])", 72);
        dueFresh(plays.toString(), "mask y([mask x(mask y([x y k8])) y])", 64);
        dueFresh(plays.toString().replace("z55(", "w("), "mask y([mask x(mask y([x y k9])) y])", 55);
    }

    /** By its first step one mask y is renamed, and gets z with this number as its name. */
    private static void dueFresh(String plays, String part, int fresh) {
        MaskPlays x = Dues.told("actor a; " + plays + "play p is " + part + ";");
        int play = x.plays() - 1;
        Dues.due("renamedByStep of " + part, x.renamedByStep(play), 1);
        x.doStep(play);
        String start = "mask y(mask z" + fresh + "([[y z" + fresh + "] ";
        Dues.due("text of " + part, Dues.textOf(x, play).substring(0, start.length()), start);
    }

    private static void noRenaming() {
        // Nothing comes in below it.
        Dues.dueStep("mask y([mask x([x mask y(y)]) y])", "mask y([y mask y(y)])", 0);
        Dues.dueStep("mask y([mask x(mask y(y)) y])", "mask y(mask y(y))", 0);
        // The uses below it belong to another mask.
        Dues.dueStep("mask y([mask x(mask y(mask x([x y]))) y])", "mask y(mask y(mask x([x y])))", 0);
        Dues.dueStep("mask y([mask x([x mask x(mask y(x))]) y])", "mask y([y mask x(mask y(x))])", 0);
        // Its name is in the second part, but not open there.
        Dues.dueStep("mask y([mask x(mask y([x y])) mask y(y)])", "mask y(mask y([mask y(y) y]))", 0);
        Dues.dueStep("mask y(mask w([mask x(mask y([x y])) w]))", "mask y(mask w(mask y([w y])))", 0);
        // What comes in below a mask outside of the scene belongs to this one as before.
        Dues.dueStep("mask y([[mask x([x y]) y] y])", "mask y([[y y] y])", 0);
    }

    private static void actorsWithNamesOfMasks() {
        MaskPlays x = Dues.told("play p is mask x(mask a([x a])); actor a; play q is [p a];"
                + " actor z0; play s is mask y([mask x(mask y([x y])) y]);");
        Dues.due("renamedByStep", x.renamedByStep(1), 1);
        Dues.due("doStep", x.doStep(1), 4);
        Dues.dueText(x, 1, "mask z0([a z0])");
        Dues.due("a stands in q", x.standsIn(1, 0), 1);
        Dues.due("z0 stands in q", x.standsIn(1, 1), 0);
        x.doStep(2);
        Dues.dueText(x, 2, "mask y(mask z0([y z0]))");
        Dues.due("z0 stands in s", x.standsIn(2, 1), 0);
        // The actor comes in below a mask that was renamed to its name.
        MaskPlays y = Dues.told("actor z0; play p is mask y([mask x(mask y([x y])) y]); play q is z0;");
        y.doStep(0);
        y.give(1, 0);
        Dues.dueText(y, 0, "[mask y(mask z0([y z0])) z0]");
        Dues.due("z0 stands once", y.standsIn(0, 0), 1);
        Dues.due("renamedByStep", y.renamedByStep(0), 1);
        y.doStep(0);
        Dues.dueText(y, 0, "mask z1([z0 z1])");
        Dues.due("z0 stands once", y.standsIn(0, 0), 1);
    }

    private static void stepsThatAreTooLarge() {
        String many = "actor a; play m is mask u([" + "a ".repeat(37) + "]); ";
        MaskPlays x = Dues.told(many + "play p is [mask x(mask w([x x])) m];"
                + " play q is [mask x(mask v(mask w([x x]))) m];");
        Dues.due("canStep", x.canStep(1), true);
        Dues.due("doStep to 150", x.doStep(1), 150);
        Dues.due("isFinished", x.isFinished(1), false);
        long before = x.digest();
        Dues.due("canStep to 151", x.canStep(2), false);
        Dues.due("isFinished", x.isFinished(2), false);
        Dues.dueThrow("doStep to 151", IllegalStateException.class, () -> x.doStep(2));
        Dues.dueThrow("renamedByStep", IllegalStateException.class, () -> x.renamedByStep(2));
        Dues.due("nextSceneAt", x.nextSceneAt(2), 0);
        Dues.due("stepsDone", x.stepsDone(2), 0);
        Dues.due("digest", x.digest(), before);
    }

    private static void sameness() {
        dueSame("mask x(x)", "mask y(y)", true);
        dueSame("mask x(mask y([x y]))", "mask y(mask x([y x]))", true);
        dueSame("mask x(mask y(x))", "mask x(mask y(y))", false);
        dueSame("mask x(mask y(x))", "mask x(mask x(x))", false);
        dueSame("mask x(mask y(y))", "mask x(mask x(x))", true);
        dueSame("mask x(a)", "mask y(a)", true);
        dueSame("mask x(a)", "mask x(b)", false);
        dueSame("mask x(a)", "mask x(x)", false);
        dueSame("a", "b", false);
        dueSame("a", "a", true);
        dueSame("a", "mask x(a)", false);
        dueSame("[a b]", "[a b]", true);
        dueSame("[a b]", "[b a]", false);
        dueSame("[[a b] a]", "[a [b a]]", false);
        dueSame("[mask x(x) a]", "mask x([x a])", false);
        dueSame("[mask x(mask y([y x])) mask x(x)]", "[mask v(mask x([x v])) mask w(w)]", true);
        dueSame("mask x([mask y([x y]) x])", "mask y([mask y([y y]) y])", false);
        MaskPlays x = Dues.told("play p is mask a(a); play q is mask x(mask a(x)); actor a; play r is mask x(a);"
                + " play s is mask a0(mask a1(a));");
        Dues.due("a mask and an actor with one name", x.isSame(0, 2), false);
        Dues.due("a mask and an actor with one name", x.isSame(2, 0), false);
        Dues.due("isSame", x.isSame(1, 3), false);
    }

    private static void dueSame(String a, String b, boolean want) {
        MaskPlays x = Dues.told("actor a; actor b; play p is " + a + "; play q is " + b + ";");
        Dues.due(a + " same " + b, x.isSame(0, 1), want);
        Dues.due(b + " same " + a, x.isSame(1, 0), want);
        Dues.due(a + " same itself", x.isSame(0, 0), true);
        Dues.dueThrow("isSame(0, 2)", IndexOutOfBoundsException.class, () -> x.isSame(0, 2) ? 1 : 0);
        Dues.dueThrow("isSame(2, 0)", IndexOutOfBoundsException.class, () -> x.isSame(2, 0) ? 1 : 0);
        Dues.dueThrow("isSame(-1, 0)", IndexOutOfBoundsException.class, () -> x.isSame(-1, 0) ? 1 : 0);
    }

    private static void asTold() {
        MaskPlays x = Dues.told("actor a; play p is [mask x(x) a]; play q is [mask x([x x]) mask x([x x])];"
                + " play r is mask y([mask x([x x]) mask x([x x])]);");
        Dues.due("as told", x.isAsTold(0), true);
        x.doStep(0);
        Dues.due("not as told", x.isAsTold(0), false);
        x.renew(0);
        Dues.due("as told again", x.isAsTold(0), true);
        x.doStep(1);
        Dues.due("the same behind a step", x.isAsTold(1), true);
        // With another name of its mask it is still the same as it was told.
        MaskPlays y = Dues.told("play p is mask x(x); play q is mask y(y);");
        y.give(1, 0);
        Dues.due("not as told", y.isAsTold(0), false);
        y.doStep(0);
        Dues.dueText(y, 0, "mask y(y)");
        Dues.due("as told", y.isAsTold(0), true);
        // Renamed masks, too, have only another name.
        MaskPlays z = Dues.told("play p is mask y([mask x(mask y([x y])) y]); play q is mask y(mask x([y x]));");
        z.doStep(0);
        Dues.dueText(z, 0, "mask y(mask z0([y z0]))");
        Dues.due("p same q", z.isSame(0, 1), true);
        Dues.due("q same p", z.isSame(1, 0), true);
        Dues.due("not as told", z.isAsTold(0), false);
    }

    private static void giving() {
        MaskPlays x = Dues.told("actor a; actor b; play p is [a b]; play q is mask x(x); play r is q;");
        Dues.due("give", x.give(0, 1), 6);
        Dues.dueText(x, 1, "[mask x(x) [a b]]");
        Dues.dueText(x, 0, "[a b]");
        Dues.dueText(x, 2, "mask x(x)");
        Dues.due("give to itself", x.give(2, 2), 5);
        Dues.dueText(x, 2, "[mask x(x) mask x(x)]");
        Dues.due("stepsDone", x.stepsDone(2), 0);
        Dues.due("evenings", x.evenings(), 0);
        Dues.due("notesCarriedOut", x.notesCarriedOut(), 0);
        // As both are now, not as they were told.
        x.doStep(1);
        Dues.due("give", x.give(1, 2), 9);
        Dues.dueText(x, 2, "[[mask x(x) mask x(x)] [a b]]");
        for (int none : new int[] {-1, 3, Integer.MIN_VALUE, Integer.MAX_VALUE}) {
            Dues.dueThrow("give " + none, IndexOutOfBoundsException.class, () -> x.give(none, 0));
            Dues.dueThrow("give to " + none, IndexOutOfBoundsException.class, () -> x.give(0, none));
        }
        theLargestGift();
    }

    private static void theLargestGift() {
        MaskPlays x = Dues.told("actor a; play p is [" + "a ".repeat(37) + "]; play q is mask x([" + "a ".repeat(38)
                + "]); play r is [" + "a ".repeat(38) + "]; play s is mask x(r);");
        Dues.due("sizes", x.sizeOf(0) * 1000 + x.sizeOf(1), 73076);
        Dues.due("give to 150", x.give(1, 0), 150);
        x.renew(0);
        Dues.due("give to 150", x.give(0, 1), 150);
        x.renew(1);
        long before = x.digest();
        Dues.dueThrow("give to 152", IllegalStateException.class, () -> x.give(2, 1));
        Dues.dueThrow("give to 151", IllegalStateException.class, () -> x.give(2, 2));
        Dues.dueThrow("give to 152", IllegalStateException.class, () -> x.give(3, 2));
        Dues.dueThrow("no play ahead of too large", IndexOutOfBoundsException.class, () -> x.give(2, 4));
        Dues.due("digest", x.digest(), before);
    }

    private static void renewing() {
        MaskPlays x = Dues.told("actor a; play p is [mask x([x x]) a]; play q is a;");
        x.doStep(0);
        x.give(1, 0);
        Dues.due("renew", x.renew(0), 6);
        Dues.dueText(x, 0, "[mask x([x x]) a]");
        Dues.due("stepsDone", x.stepsDone(0), 1);
        x.doStep(0);
        Dues.due("stepsDone", x.stepsDone(0), 2);
        Dues.due("renew", x.renew(0), 6);
        Dues.due("renew what is as told", x.renew(1), 1);
        Dues.due("notesCarriedOut", x.notesCarriedOut(), 0);
    }

    private static void noSuchPlay() {
        MaskPlays x = Dues.told("actor a; play p is [mask x(x) a];");
        for (int play : NO_PLAYS) {
            long before = x.digest();
            dueNoPlay("sizeOf", () -> x.sizeOf(play));
            dueNoPlay("masksIn", () -> x.masksIn(play));
            dueNoPlay("scenesIn", () -> x.scenesIn(play));
            dueNoPlay("mostMasksAround", () -> x.mostMasksAround(play));
            dueNoPlay("standsIn", () -> x.standsIn(play, 0));
            dueNoPlay("stepsDone", () -> x.stepsDone(play));
            dueNoPlay("isFinished", () -> x.isFinished(play) ? 1 : 0);
            dueNoPlay("canStep", () -> x.canStep(play) ? 1 : 0);
            dueNoPlay("textLength", () -> x.textLength(play));
            dueNoPlay("letterAt", () -> x.letterAt(play, 0));
            dueNoPlay("nextSceneAt", () -> x.nextSceneAt(play));
            dueNoPlay("renamedByStep", () -> x.renamedByStep(play));
            dueNoPlay("isSame", () -> x.isSame(play, 0) ? 1 : 0);
            dueNoPlay("isSame", () -> x.isSame(0, play) ? 1 : 0);
            dueNoPlay("isAsTold", () -> x.isAsTold(play) ? 1 : 0);
            dueNoPlay("doStep", () -> x.doStep(play));
            dueNoPlay("renew", () -> x.renew(play));
            Dues.due("digest", x.digest(), before);
        }
    }

    private static void dueNoPlay(String call, Dues.Call asker) {
        Dues.dueThrow(call + " of no play", IndexOutOfBoundsException.class, asker);
    }
}
