/** Each sentence of the document that names a bound has a test of its own, on both sides of it. */
final class BoundsTest {
    private static final String PLAYS = "2. Plays";

    private BoundsTest() {
    }

    public static void main(String[] args) {
        BoundsOfTape.run();
        BoundsOfErrors.run();
        BoundsOfSteps.run();
        BoundsOfEvenings.run();
        BoundsOfCalls.run();
        BoundsOfPlays.run();
        BoundsOfWouldBe.run();
        whatNeedsNoTest();
        Sentences.dueThatNoneIsLeft();
        Dues.end();
    }

    /** What only tells what the other sentences are about, or what is free. */
    private static void whatNeedsNoTest() {
        Sentences.needsNoTest("What it is", "A playbook of masks.");
        Sentences.needsNoTest("Terms", "Masks stand for actors, and for other masks; in a scene a mask is taken off, and what"
                + " is given to it comes in its place, the outermost first; masks are renamed, so that nobody is taken for"
                + " another one; plays are stepped by hand and by notes with tests from evening to evening; and one can ask"
                + " how large a play is, what its text is, which scene is the next one, whether two plays are the same but"
                + " for the names of their masks, in how many steps a play is finished, and what had best be given to it.");
        String[][] calls = {{"`feed`, `trim`, `teach`, `errorAt`", "the language"},
            {"`actors`, `plays`, `notes`, `evenings`, `notesCarriedOut`, `tapeBytes`", "the playbook"},
            {"`sizeOf`, `masksIn`, `scenesIn`, `mostMasksAround`, `standsIn`, `stepsDone`, `isFinished`, `canStep`,"
                + " `textLength`, `letterAt`, `nextSceneAt`, `renamedByStep`, `isSame`, `isAsTold`", "what a play is"},
            {"`doStep`, `give`, `renew`", "by hand"},
            {"`passEvenings`, `stepsToFinish`, `sizeAfterSteps`, `endSame`, `sizeAfterEvenings`, `eveningsUntilFinished`,"
                + " `bestGift`, `meanSize`, `digest`", "evenings and what would be"}};
        for (String[] group : calls) {
            Sentences.needsNoTest(PLAYS, "Ahead of the calls " + group[0] + " the interface says: ---- " + group[1] + ".");
        }
        // FaceTest looks at this section.
        Sentences.needsNoTestOfAll("The public face");
        Sentences.needsNoTestOfAll("Not promised");
    }
}
