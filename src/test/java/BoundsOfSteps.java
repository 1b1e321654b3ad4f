/** The bounds of parts, their texts and what is the same, and of steps and renaming: section 2 up to evenings. */
final class BoundsOfSteps {
    private static final String PLAYS = "2. Plays";
    private static final String ACTORS = "actor a; actor b; ";

    private BoundsOfSteps() {
    }

    static void run() {
        Sentences.of(PLAYS, "Parts. A part is an actor, a use of a mask (both are names), a mask with one part below it,"
                + " or a scene of two parts: the first one is given the second one.", BoundsOfSteps::partsAndScenes);
        Sentences.of(PLAYS, "[ a b c ] is the scene of the scene of a and b, and of c; and so on.",
                BoundsOfSteps::scenesOfMore);
        Sentences.of(PLAYS, "The name of a play told ahead stands for its part as it was told.", BoundsOfSteps::asTold);
        Sentences.of(PLAYS, "The size of a part is how many parts it has: each name, mask and scene counts 1.",
                BoundsOfSteps::sizes);
        Sentences.of(PLAYS, "A use belongs to the innermost mask with its name of those around it.",
                BoundsOfSteps::belonging);
        Sentences.of(PLAYS, "The open names of a part are those of its names that belong to no mask in this part (so"
                + " actors, and uses that belong to masks around it).", BoundsOfSteps::openNames);
        Sentences.of(PLAYS, "Step. A scene is ready, if its first part is a mask.", BoundsOfSteps::readyScenes);
        Sentences.of(PLAYS, "The next scene of a play is, of the ready ones, that of which the text begins first.",
                BoundsOfSteps::theNextScene);
        Sentences.of(PLAYS, "By a step the mask of this scene is taken off: the scene is replaced by the part below the"
                + " mask, in which the second part stands in the place of each use that belongs to it.",
                BoundsOfSteps::theMaskTakenOff);
        Sentences.of(PLAYS, "All other parts stay.", BoundsOfSteps::allOtherPartsStay);
        Sentences.of(PLAYS, "Renaming. As the second part comes in below a mask, this one is renamed first, if its name"
                + " is an open name of the second part:", BoundsOfSteps::whenItIsRenamed);
        Sentences.of(PLAYS, "it, and the uses that belong to it, get as their name the first one of z0, z1, z2 and so on"
                + " that is no name of anything in the part below it (of a mask or otherwise), nor an open name of the"
                + " second part.", BoundsOfSteps::theNewName);
        Sentences.of(PLAYS, "z0, z1, z2 and so on", BoundsOfSteps::manyNames);
        Sentences.of(PLAYS, "Masks farther out are renamed ahead of those farther in.", BoundsOfSteps::fartherOutFirst);
        Sentences.of(PLAYS, "A mask is not renamed, if there is no use below it in the place of which the second part"
                + " comes.", BoundsOfSteps::noUseBelow);
        Sentences.of(PLAYS, "A play is finished, if it has no ready scene.", BoundsOfSteps::finishedPlays);
        Sentences.of(PLAYS, "A step cannot be done, if the play is finished, or would have more than 150 parts behind it.",
                BoundsOfSteps::stepsThatCannotBeDone);
        Sentences.of(PLAYS, "Text. That of a name is the name; that of a mask is mask, a blank, its name, (, the text of"
                + " the part below it, and ); that of a scene is [, the text of its first part, a blank, the text of the"
                + " second one, and ]", BoundsOfSteps::texts);
        Sentences.of(PLAYS, "Same. Two parts are the same, if their texts are so when masks of the one may have other"
                + " names than those of the other one (and uses likewise, each as its mask).", BoundsOfSteps::same);
    }

    private static void dueText(String part, String want) {
        MaskPlays x = Dues.told(ACTORS + "play p is " + part + ";");
        Dues.dueText(x, 0, want);
    }

    // ---- parts

    private static void partsAndScenes() {
        dueCounts("a", 1, 0, 0);
        dueCounts("mask x(x)", 2, 1, 0);
        dueCounts("[a b]", 3, 0, 1);
        dueCounts("mask x([x a])", 4, 1, 1);
        Dues.dueStep("[mask x([x a]) b]", "[b a]", 0);
    }

    private static void scenesOfMore() {
        dueText("[a b]", "[a b]");
        dueText("[a b a]", "[[a b] a]");
        dueText("[a b a b]", "[[[a b] a] b]");
        dueText("[a [b a b] a]", "[[a [[b a] b]] a]");
        dueText("[[a b] [b a] a]", "[[[a b] [b a]] a]");
        dueCounts("[" + "a ".repeat(75) + "]", 149, 0, 74);
        dueText("[" + "a ".repeat(75) + "]", "[".repeat(74) + "a" + " a]".repeat(74));
    }

    private static void dueCounts(String part, int parts, int masks, int scenes) {
        MaskPlays x = Dues.told(ACTORS + "play p is " + part + ";");
        Dues.due("sizeOf " + part, x.sizeOf(0), parts);
        Dues.due("masksIn " + part, x.masksIn(0), masks);
        Dues.due("scenesIn " + part, x.scenesIn(0), scenes);
    }

    private static void asTold() {
        MaskPlays x = Dues.told("actor a; play p is [mask x(x) a]; play q is p; play r is mask x([p x q]);");
        Dues.dueText(x, 1, "[mask x(x) a]");
        Dues.dueText(x, 2, "mask x([[[mask x(x) a] x] [mask x(x) a]])");
        // It stands for the part, not for the play: what happens to this later is nothing to it.
        x.doStep(0);
        x.give(0, 0);
        Dues.dueText(x, 1, "[mask x(x) a]");
        Dues.dueText(x, 2, "mask x([[[mask x(x) a] x] [mask x(x) a]])");
        x.renew(1);
        Dues.dueText(x, 1, "[mask x(x) a]");
        x.renew(2);
        Dues.due("sizeOf", x.sizeOf(2), 12);
    }

    private static void sizes() {
        dueCounts("a", 1, 0, 0);
        dueCounts("mask x(a)", 2, 1, 0);
        dueCounts("mask x(mask x(x))", 3, 2, 0);
        dueCounts("[a mask x(mask y([x y]))]", 7, 2, 2);
        dueCounts("[" + "mask x(x) ".repeat(50) + "]", 149, 50, 49);
        dueCounts("mask y([" + "mask x(x) ".repeat(50) + "])", 150, 51, 49);
    }

    private static void belonging() {
        Dues.dueStep("[mask x([x mask x(x)]) a]", "[a mask x(x)]", 0);
        Dues.dueStep("[mask x(mask x(mask y(x))) a]", "mask x(mask y(x))", 0);
        Dues.dueStep("[mask x(mask y(mask z(x))) a]", "mask y(mask z(a))", 0);
        Dues.dueStep("[mask x([mask x(x) x]) a]", "[mask x(x) a]", 0);
        Dues.dueStep("[mask x([mask y(y) x]) a]", "[mask y(y) a]", 0);
        dueStep2("[mask x([mask x(x) x]) a]", "a");
        dueSame("mask x(mask x(x))", "mask x(mask y(y))", true);
        dueSame("mask x(mask x(x))", "mask x(mask y(x))", false);
    }

    /** Behind two steps. */
    private static void dueStep2(String part, String text) {
        MaskPlays x = Dues.told(ACTORS + "play p is " + part + ";");
        x.doStep(0);
        x.doStep(0);
        Dues.dueText(x, 0, text);
    }

    private static void openNames() {
        // By its renaming one sees that y is an open name of the second part.
        String ready = "mask y([mask x(mask y([x y])) ";
        Dues.dueStep(ready + "y])", "mask y(mask z0([y z0]))", 1);
        Dues.dueStep(ready + "[a mask w(y)]])", "mask y(mask z0([[a mask w(y)] z0]))", 1);
        Dues.dueStep(ready + "[mask y(y) y]])", "mask y(mask z0([[mask y(y) y] z0]))", 1);
        Dues.dueStep(ready + "mask y(y)])", "mask y(mask y([mask y(y) y]))", 0);
        Dues.dueStep(ready + "mask y(mask w(y))])", "mask y(mask y([mask y(mask w(y)) y]))", 0);
        Dues.dueStep(ready + "a])", "mask y(mask y([a y]))", 0);
        MaskPlays x = Dues.told("play p is mask x(mask y([x y])); play n is mask y(y); actor y; play q is [p y];"
                + " play r is [p n];");
        Dues.due("an actor is an open name", x.renamedByStep(2), 1);
        Dues.due("a use of a mask in the part is none", x.renamedByStep(3), 0);
        Dues.due("an actor stands in it", x.standsIn(2, 0), 1);
        Dues.due("a use of a mask with its name does not", x.standsIn(0, 0) + x.standsIn(3, 0), 0);
    }

    // ---- steps

    private static void readyScenes() {
        dueFinished("a", true);
        dueFinished("mask x(x)", true);
        dueFinished("[a b]", true);
        dueFinished("[a mask x(x)]", true);
        dueFinished("[[a mask x(x)] mask y(y)]", true);
        dueFinished("mask x([x mask y(y)])", true);
        dueFinished("mask x([mask y(y) x])", false);
        dueFinished("[mask x(x) a]", false);
        dueFinished("[mask x(x) mask x(x)]", false);
        dueFinished("[a [mask x(x) a]]", false);
        dueFinished("[[mask x(x) a] a]", false);
        // The outer scene has a scene as its first part: it becomes ready by the step of this one.
        Dues.dueStep("[[mask x(x) mask y(y)] a]", "[mask y(y) a]", 0);
        dueStep2("[[mask x(x) mask y(y)] a]", "a");
    }

    private static void dueFinished(String part, boolean finished) {
        MaskPlays x = Dues.told(ACTORS + "play p is " + part + ";");
        Dues.due("isFinished " + part, x.isFinished(0), finished);
        Dues.due("canStep " + part, x.canStep(0), !finished);
    }

    private static void theNextScene() {
        dueNext("[mask x(x) [mask y(y) a]]", 0, "[mask y(y) a]");
        dueNext("[mask x([mask y(y) x]) a]", 0, "[mask y(y) a]");
        dueNext("[[mask x(x) a] [mask y(y) b]]", 1, "[a [mask y(y) b]]");
        dueNext("[[a mask x(x)] [mask y(y) b]]", 15, "[[a mask x(x)] b]");
        dueNext("[a [mask y(y) b]]", 3, "[a b]");
        dueNext("mask x([x [mask y(y) b]])", 10, "mask x([x b])");
        dueNext("[[[mask x(x) a] b] [mask y(y) b]]", 2, "[[a b] [mask y(y) b]]");
        // What is given to it may hold ready scenes: they come in as they are.
        dueNext("[mask x([b x]) [mask y(y) a]]", 0, "[b [mask y(y) a]]");
        dueNext("[mask x(b) [mask y(y) a]]", 0, "b");
    }

    private static void dueNext(String part, int place, String text) {
        MaskPlays x = Dues.told(ACTORS + "play p is " + part + ";");
        Dues.due("nextSceneAt of " + part, x.nextSceneAt(0), place);
        x.doStep(0);
        Dues.dueText(x, 0, text);
    }

    private static void theMaskTakenOff() {
        Dues.dueStep("[mask x(b) a]", "b", 0);
        Dues.dueStep("[mask x(x) a]", "a", 0);
        Dues.dueStep("[mask x([x x]) a]", "[a a]", 0);
        Dues.dueStep("[mask x([x [b [x x]]]) a]", "[a [b [a a]]]", 0);
        Dues.dueStep("[mask x([x b]) [a a]]", "[[a a] b]", 0);
        Dues.dueStep("[mask x([b x]) mask y(y)]", "[b mask y(y)]", 0);
        Dues.dueStep("[mask x(mask y([x y])) a]", "mask y([a y])", 0);
        Dues.dueStep("[mask x(mask x(x)) a]", "mask x(x)", 0);
        Dues.dueStep("[mask x([x mask x(x)]) a]", "[a mask x(x)]", 0);
        String uses = "x ".repeat(72);
        Dues.dueStep("[mask x([" + uses + "]) a]", "[".repeat(71) + "a" + " a]".repeat(71), 0);
    }

    private static void allOtherPartsStay() {
        Dues.dueStep("[b [mask x([x x]) a]]", "[b [a a]]", 0);
        Dues.dueStep("[[mask x([x x]) a] b]", "[[a a] b]", 0);
        Dues.dueStep("mask x([x [[mask x([x x]) a] x]])", "mask x([x [[a a] x]])", 0);
        Dues.dueStep("mask y([[mask x(x) y] [mask x(x) y]])", "mask y([y [mask x(x) y]])", 0);
        MaskPlays x = Dues.told(ACTORS + "play p is [mask x(x) a]; play q is p; play r is [p p];");
        x.doStep(1);
        Dues.dueText(x, 0, "[mask x(x) a]");
        Dues.dueText(x, 1, "a");
        Dues.dueText(x, 2, "[[mask x(x) a] [mask x(x) a]]");
    }

    // ---- renaming

    private static void whenItIsRenamed() {
        Dues.dueStep("mask y([mask x(mask y(x)) y])", "mask y(mask z0(y))", 1);
        Dues.dueStep("mask y([mask x(mask w(x)) y])", "mask y(mask w(y))", 0);
        Dues.dueStep("mask y([mask x(mask y(x)) a])", "mask y(mask y(a))", 0);
        Dues.dueStep("mask y(mask w([mask x(mask y(x)) w]))", "mask y(mask w(mask y(w)))", 0);
        Dues.dueStep("mask y(mask w([mask x(mask w(x)) w]))", "mask y(mask w(mask z0(w)))", 1);
        Dues.dueStep("mask y([mask x(mask y(x)) [a [y mask y(y)]]])", "mask y(mask z0([a [y mask y(y)]]))", 1);
        Dues.dueStep("mask y([mask x(mask y(x)) mask y(y)])", "mask y(mask y(mask y(y)))", 0);
        // Not a mask beside the place, nor one outside of the scene, nor the one that is taken off.
        Dues.dueStep("mask y([mask x([x mask y(y)]) y])", "mask y([y mask y(y)])", 0);
        Dues.dueStep("mask y([mask y([y y]) y])", "mask y([y y])", 0);
        Dues.dueStep("mask y([mask y(mask x([x y])) y])", "mask y(mask x([x y]))", 0);
        Dues.dueStep("mask y(mask y([mask x([x y]) y]))", "mask y(mask y([y y]))", 0);
        // Without it somebody would be taken for another one.
        dueSame("mask y(mask z0(y))", "mask y(mask y(y))", false);
    }

    private static void theNewName() {
        Dues.dueStep("mask y([mask x(mask y([x [y [y y]]])) y])", "mask y(mask z0([y [z0 [z0 z0]]]))", 1);
        // Uses of another mask with the same name, farther in, stay.
        Dues.dueStep("mask y([mask x(mask y([x y mask y(y)])) y])", "mask y(mask z0([[y z0] mask y(y)]))", 1);
        // A name below it: of a mask, of a use of this or another one, of an actor, of the mask taken off.
        Dues.dueStep("mask y([mask x(mask y([x mask z0(a)])) y])", "mask y(mask z1([y mask z0(a)]))", 1);
        Dues.dueStep("mask y([mask x(mask y(mask z0(x))) y])", "mask y(mask z1(mask z0(y)))", 1);
        Dues.dueStep("mask y([mask z0(mask y(z0)) y])", "mask y(mask z1(y))", 1);
        Dues.dueStep("mask z0(mask y([mask x(mask y([x z0])) y]))", "mask z0(mask y(mask z1([y z0])))", 1);
        Dues.dueStep("actor z0; ", "mask y([mask x(mask y([x z0])) y])", "mask y(mask z1([y z0]))", 1);
        Dues.dueStep("mask y([mask z0(mask y([z0 y])) y])", "mask y(mask z1([y z1]))", 1);
        Dues.dueStep("mask y([mask x(mask y([x mask y(mask z0(a))])) y])", "mask y(mask z1([y mask y(mask z0(a))]))", 1);
        // An open name of the second part: a use of a mask around the scene, or an actor.
        Dues.dueStep("mask z0(mask y([mask x(mask y(x)) [y z0]]))", "mask z0(mask y(mask z1([y z0])))", 1);
        Dues.dueStep("actor z0; ", "mask y([mask x(mask y(x)) [y z0]])", "mask y(mask z1([y z0]))", 1);
        Dues.dueStep("mask z0([mask x(mask z0([x z0])) z0])", "mask z0(mask z1([z0 z1]))", 1);
        elsewhere();
        theFirstOne();
    }

    /** A name that is neither below it nor open in the second part is free. */
    private static void elsewhere() {
        Dues.dueStep("mask z0(mask y([mask x(mask y(x)) y]))", "mask z0(mask y(mask z0(y)))", 1);
        Dues.dueStep("mask y([mask x([mask z0(a) mask y(x)]) y])", "mask y([mask z0(a) mask z0(y)])", 1);
        Dues.dueStep("mask y([mask x(mask z0(mask y(x))) y])", "mask y(mask z0(mask z0(y)))", 1);
        Dues.dueStep("mask y([mask x(mask y(x)) [y mask z0(z0)]])", "mask y(mask z0([y mask z0(z0)]))", 1);
        Dues.dueStep("mask y([[mask x(mask y(x)) y] mask z0(z0)])", "mask y([mask z0(y) mask z0(z0)])", 1);
        Dues.dueStep("actor z0; ", "[mask y([mask x(mask y(x)) y]) z0]", "[mask x(mask y(x)) z0]", 0);
        Dues.dueStep("actor z0; ", "mask y([[mask x(mask y(x)) y] z0])", "mask y([mask z0(y) z0])", 1);
        MaskPlays x = Dues.told("actor z0; play p is mask y([[mask x(mask y(x)) y] z0]);");
        x.doStep(0);
        Dues.due("z0 stands once", x.standsIn(0, 0), 1);
    }

    private static void theFirstOne() {
        Dues.dueStep("mask y([mask x(mask y([x mask z1(a)])) y])", "mask y(mask z0([y mask z1(a)]))", 1);
        Dues.dueStep("mask y([mask x(mask y([x mask z0(mask z2(a))])) y])", "mask y(mask z1([y mask z0(mask z2(a))]))", 1);
        Dues.dueStep("mask z1([mask x(mask z1([x z1])) z1])", "mask z1(mask z0([z1 z0]))", 1);
        Dues.dueStep("mask z0(mask z1([mask x(mask z1([x z0])) z1]))", "mask z0(mask z1(mask z2([z1 z0])))", 1);
        Dues.dueStep("mask z0(mask z1([mask x(mask z1(x)) [z1 z0]]))", "mask z0(mask z1(mask z2([z1 z0])))", 1);
        Dues.dueStep("mask y([mask x(mask y([x mask z00(mask z(mask z01(a)))])) y])",
                "mask y(mask z0([y mask z00(mask z(mask z01(a)))]))", 1);
    }

    private static void manyNames() {
        // Nine plays with eight masks each rule out z0 to z71, or all of these but one.
        StringBuilder plays = new StringBuilder("actor a; play k0 is a; ");
        for (int n = 1; n <= 9; n++) {
            plays.append("play k").append(n).append(" is ");
            for (int mask = 8 * n - 8; mask < 8 * n; mask++) {
                plays.append("mask z").append(mask).append('(');
            }
            plays.append('k').append(n - 1).append(")))))))); ");
        }
        String all = plays.toString();
        for (int free : new int[] {0, 1, 9, 10, 11, 19, 20, 70, 71}) {
            dueNew(all.replace("mask z" + free + "(", "mask w("), free);
        }
        dueNew(all, 72);
    }

    private static void dueNew(String plays, int number) {
        MaskPlays x = Dues.told(plays + "play p is mask y([mask x(mask y([x k9])) y]);");
        x.doStep(10);
        String start = "mask y(mask z" + number + "([y mask ";
        Dues.due("the name with z0 to z71 but " + number, Dues.textOf(x, 10).substring(0, start.length()), start);
    }

    private static void fartherOutFirst() {
        // Below the inner one the outer one's new name stands, so it gets the next one.
        Dues.dueStep("mask y(mask w([mask x(mask y(mask w([x y]))) [y w]]))", "mask y(mask w(mask z0(mask z1([[y w] z0]))))", 2);
        Dues.dueStep("mask y(mask w([mask x(mask y(mask w([x [w y]]))) [y w]]))",
                "mask y(mask w(mask z0(mask z1([[y w] [z1 z0]]))))", 2);
        // Not below it: it gets the same one.
        Dues.dueStep("mask y(mask w([mask x(mask y(mask w([x w]))) [y w]]))", "mask y(mask w(mask z0(mask z0([[y w] z0]))))", 2);
        Dues.dueStep("mask y([mask x(mask y(mask y(x))) y])", "mask y(mask z0(mask z0(y)))", 2);
        // The inner one's old name is one below the outer one, not its new name.
        Dues.dueStep("mask z0([mask x(mask z0(mask z0(x))) z0])", "mask z0(mask z1(mask z1(z0)))", 2);
        Dues.dueStep("mask y(mask z0([mask x(mask y(mask z0([x y]))) [y z0]]))",
                "mask y(mask z0(mask z1(mask z2([[y z0] z1]))))", 2);
        // Three within one another, each with uses of those farther out.
        Dues.dueStep("play k is mask x(mask u(mask v(mask w([x [u [v w]]])))); actor u; actor v; actor w; ",
                "[k [u [v w]]]", "mask z0(mask z1(mask z2([[u [v w]] [z0 [z1 z2]]])))", 3);
        // Beside one another each is on its own.
        Dues.dueStep("mask y([mask x([mask y([x y]) mask y([y x])]) y])", "mask y([mask z0([y z0]) mask z0([z0 y])])", 2);
    }

    private static void noUseBelow() {
        Dues.dueStep("mask y([mask x(mask y(x)) y])", "mask y(mask z0(y))", 1);
        Dues.dueStep("mask y([mask x(mask y(y)) y])", "mask y(mask y(y))", 0);
        Dues.dueStep("mask y([mask x([x mask y(y)]) y])", "mask y([y mask y(y)])", 0);
        Dues.dueStep("mask y([mask x([mask y(y) x]) y])", "mask y([mask y(y) y])", 0);
        Dues.dueStep("mask y([mask x(mask y(mask x(x))) y])", "mask y(mask y(mask x(x)))", 0);
        Dues.dueStep("mask y([mask x(mask y([x mask y(y)])) y])", "mask y(mask z0([y mask y(y)]))", 1);
        Dues.dueStep("mask y([mask x([mask y(x) mask y(a)]) y])", "mask y([mask z0(y) mask y(a)])", 1);
        Dues.dueStep("mask y([mask x([mask y(a) mask y(x)]) y])", "mask y([mask y(a) mask z0(y)])", 1);
        Dues.dueStep("mask y([mask x(a) y])", "mask y(a)", 0);
    }

    // ---- finished plays, and steps that cannot be done

    private static void finishedPlays() {
        dueFinished("a", true);
        dueFinished("[a mask x([x a])]", true);
        dueFinished("[a mask x([mask y(y) a])]", false);
        String names = "a ".repeat(70);
        dueFinished("[" + names + " mask x(x)]", true);
        dueFinished("[" + names + " [mask x(x) a]]", false);
        // The ready scene may be the last one that there can be.
        dueFinished("[" + "a ".repeat(73) + " [mask x(a) a]]", false);
        dueFinished("[" + "a ".repeat(73) + " [a mask x(a)]]", true);
        // A ready scene of which the step cannot be done is one, too.
        MaskPlays large = Dues.told(ACTORS + "play p is [mask x([x x]) [" + "a ".repeat(38) + "]];");
        Dues.due("canStep", large.canStep(0), false);
        Dues.due("isFinished", large.isFinished(0), false);
        MaskPlays x = Dues.told(ACTORS + "play p is [mask x(x) mask x(x) a];");
        x.doStep(0);
        Dues.due("behind one step", x.isFinished(0), false);
        x.doStep(0);
        Dues.due("behind two steps", x.isFinished(0), true);
    }

    private static void stepsThatCannotBeDone() {
        String even = "mask u([" + "a ".repeat(37) + "])";
        String odd = "[" + "a ".repeat(38) + "]";
        dueSizeBehindStep("[mask x([x x]) " + even + "]", 149);
        dueSizeBehindStep("[mask x(mask w([x x])) " + even + "]", 150);
        dueNoStep("[mask x(mask v(mask w([x x]))) " + even + "]");
        dueNoStep("[mask x([x x]) " + odd + "]");
        dueNoStep("[mask x([x x x]) " + odd + "]");
        // 3 times 49 and 2 scenes, and 1 or 2 masks more.
        String third = "[" + "a ".repeat(25) + "]";
        dueSizeBehindStep("[mask x([x x x]) " + third + "]", 149);
        dueSizeBehindStep("[mask x(mask w([x x x])) " + third + "]", 150);
        dueNoStep("[mask x(mask v(mask w([x x x]))) " + third + "]");
        // 74 times 1 and 73 scenes; also parts outside of the scene count.
        dueSizeBehindStep("mask w([[mask x([" + "x ".repeat(36) + "]) a] [" + "a ".repeat(37) + "]])", 146);
        dueSizeBehindStep("mask w([[mask x([x x]) " + third + "] [" + "a ".repeat(25) + "]])", 150);
        dueNoStep("mask v(mask w([[mask x([x x]) " + third + "] [" + "a ".repeat(25) + "]]))");
        // One that gets smaller, or stays as large, can always be done.
        dueSizeBehindStep("[mask x(b) [" + "a ".repeat(74) + "]]", 1);
        dueSizeBehindStep("[mask x(x) mask y([" + "a ".repeat(73) + "])]", 146);
        dueSizeBehindStep("mask w([mask x([x b]) [" + "a ".repeat(72) + "]])", 146);
        dueFinished("[a b]", true);
        dueNoStep("[a b]");
        dueNoStep("a");
    }

    private static void dueSizeBehindStep(String part, int size) {
        MaskPlays x = Dues.told(ACTORS + "play p is " + part + ";");
        Dues.due("canStep " + part, x.canStep(0), true);
        Dues.due("renamedByStep " + part, x.renamedByStep(0), 0);
        Dues.due("doStep " + part, x.doStep(0), size);
        Dues.due("sizeOf " + part, x.sizeOf(0), size);
        Dues.due("stepsDone " + part, x.stepsDone(0), 1);
    }

    private static void dueNoStep(String part) {
        MaskPlays x = Dues.told(ACTORS + "play p is " + part + ";");
        long before = x.digest();
        Dues.due("canStep " + part, x.canStep(0), false);
        Dues.dueThrow("doStep " + part, IllegalStateException.class, () -> x.doStep(0));
        Dues.dueThrow("renamedByStep " + part, IllegalStateException.class, () -> x.renamedByStep(0));
        Dues.due("stepsDone " + part, x.stepsDone(0), 0);
        Dues.due("digest " + part, x.digest(), before);
    }

    // ---- texts, and what is the same

    private static void texts() {
        dueText("a", "a");
        dueText("mask x(x)", "mask x(x)");
        dueText("mask  x \n( x ) ", "mask x(x)");
        dueText("[a b]", "[a b]");
        dueText(" [ a   b ] ", "[a b]");
        dueText("[mask x(x)mask y(y)]", "[mask x(x) mask y(y)]");
        dueText("mask x([mask y1([x y1])[x a]])", "mask x([mask y1([x y1]) [x a]])");
        dueText("[[a b] [b a]]", "[[a b] [b a]]");
        dueText("[a [b [b a]]]", "[a [b [b a]]]");
        dueText("[a mask x(mask y(mask w([x [y w]])))]", "[a mask x(mask y(mask w([x [y w]])))]");
        MaskPlays x = Dues.told("actor abcdefghij; actor a; play p is mask zyxwvutsrq([abcdefghij zyxwvutsrq]);");
        Dues.dueText(x, 0, "mask zyxwvutsrq([abcdefghij zyxwvutsrq])");
    }

    private static void same() {
        dueSame("a", "a", true);
        dueSame("a", "b", false);
        dueSame("[a b]", "[a b]", true);
        dueSame("[a b]", "[b a]", false);
        dueSame("[a b]", "a", false);
        dueSame("[[a b] a]", "[a [b a]]", false);
        dueSame("mask x(x)", "mask y(y)", true);
        dueSame("mask x(a)", "mask y(a)", true);
        dueSame("mask x(a)", "mask x(b)", false);
        dueSame("mask x(a)", "mask x(x)", false);
        dueSame("mask x(mask y([x y]))", "mask y(mask x([y x]))", true);
        dueSame("mask x(mask y([x y]))", "mask x(mask y([y x]))", false);
        dueSame("mask x(mask y([x y]))", "mask y(mask x([x y]))", false);
        dueSame("mask x(mask y(y))", "mask x(mask x(x))", true);
        dueSame("mask x(mask y(x))", "mask x(mask x(x))", false);
        dueSame("[mask x(x) mask y(y)]", "[mask x(x) mask x(x)]", true);
        dueSame("mask x([mask y([x y]) x])", "mask x([mask w([x w]) x])", true);
        dueSame("mask x([mask y([x y]) x])", "mask x([mask x([x x]) x])", false);
        dueSame("[mask x(x) a]", "mask x([x a])", false);
        // An actor is nobody's mask, whatever the name of the mask.
        MaskPlays x = Dues.told("play p is mask a(a); play s is mask b(mask a(b)); actor a; play q is mask x(a);"
                + " play r is mask x(x); play t is mask y(mask x(y)); play u is mask y(mask x(a));");
        dueBoth(x, 0, 2, false);
        dueBoth(x, 0, 3, true);
        dueBoth(x, 1, 4, true);
        dueBoth(x, 1, 5, false);
        // The largest ones, which differ in their last name only.
        String many = "[" + "a ".repeat(74);
        dueSame(many + "a]", many + "a]", true);
        dueSame(many + "a]", many + "b]", false);
    }

    private static void dueSame(String a, String b, boolean want) {
        MaskPlays x = Dues.told(ACTORS + "play p is " + a + "; play q is " + b + ";");
        dueBoth(x, 0, 1, want);
        dueBoth(x, 0, 0, true);
    }

    private static void dueBoth(MaskPlays x, int a, int b, boolean want) {
        String texts = Dues.textOf(x, a) + " same " + Dues.textOf(x, b);
        Dues.due(texts, x.isSame(a, b), want);
        Dues.due(texts + ", the other way", x.isSame(b, a), want);
    }
}
