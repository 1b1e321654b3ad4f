/** The bounds of sums and tests, and of evenings: the terms, and section 2 from evenings on. */
final class BoundsOfEvenings {
    private static final String TERMS = "Terms";
    private static final String PLAYS = "2. Plays";
    private static final String MOST = "(65536*32767+65535)";
    private static final String LEAST = "(-65536*32767-65536)";
    private static final String ID = "play i is mask x(x); ";
    private static final String SELF = "play o is [mask x([x x]) mask x([x x])]; ";

    private BoundsOfEvenings() {
    }

    static void run() {
        Sentences.of(TERMS, "All numbers are whole;", BoundsOfEvenings::wholeNumbers);
        Sentences.of(TERMS, "sums, differences and products of the language wrap around in 32 bits;",
                BoundsOfEvenings::wrappingAround);
        Sentences.of(TERMS, "/ is cut towards 0,", BoundsOfEvenings::cutTowards0);
        Sentences.of(TERMS, "gives 0 with 0 on the right side,", BoundsOfEvenings::zeroOnTheRight);
        Sentences.of(TERMS, "and -2147483648 / -1 gives -2147483648.", BoundsOfEvenings::theLeastOverMinus1);
        Sentences.of(PLAYS, "An evening goes like this: notes, in the order in which they are told, if the test holds as"
                + " it comes to its turn (or there is none).", BoundsOfEvenings::notesInTheirOrder);
        Sentences.of(PLAYS, "step: a step of the play, if it can be done.", BoundsOfEvenings::steps);
        Sentences.of(PLAYS, "give: the play behind to becomes the scene of itself and the play behind give, as both are,"
                + " if it has no more than 150 parts then.", BoundsOfEvenings::gifts);
        Sentences.of(PLAYS, "renew: the play becomes as it was told.", BoundsOfEvenings::renewals);
        Sentences.of(PLAYS, "Each one by which a play has another text is carried out.", BoundsOfEvenings::carriedOut);
        Sentences.of(PLAYS, "Then the number of evenings is 1 greater.", BoundsOfEvenings::theNumberOfEvenings);
        Sentences.of(PLAYS, "In tests and sums evening is the number of evenings, size that of a play, masks how many"
                + " masks it has, steps how many steps of it were done in all (by notes and by hand, also ahead of"
                + " renewing it);", BoundsOfEvenings::valuesInSums);
        Sentences.of(PLAYS, "finished holds for a play that is finished, same for two plays that are the same.",
                BoundsOfEvenings::finishedAndSame);
        Sentences.of(PLAYS, "Both sides of and and or are reckoned; and binds more than or, not more than and.",
                BoundsOfEvenings::bothAndEither);
        Sentences.of(PLAYS, "A method that throws an exception changes nothing.",
                BoundsOfEvenings::throwingChangesNothing);
        Sentences.of(PLAYS, "If several exceptions apply, the one that is named first is thrown.",
                BoundsOfEvenings::theOneNamedFirst);
    }

    // ---- terms

    private static void wholeNumbers() {
        Dues.dueHolds("1/2+1/2=0");
        Dues.dueHolds("3/2*2=2");
        Dues.dueHolds("999999/(1000*1000)*1000=0");
    }

    private static void wrappingAround() {
        Dues.dueHolds(MOST + ">0 and " + LEAST + "<0 and " + LEAST + "<" + MOST);
        Dues.dueHolds(MOST + "-1+1=" + MOST);
        Dues.dueHolds(MOST + "+1=" + LEAST);
        Dues.dueHolds(MOST + "+1<0");
        Dues.dueHolds(MOST + "+" + MOST + "=-2");
        Dues.dueHolds(LEAST + "+1-1=" + LEAST);
        Dues.dueHolds(LEAST + "-1=" + MOST);
        Dues.dueHolds(LEAST + "-1>0");
        Dues.dueHolds("0-" + MOST + "=" + LEAST + "+1");
        Dues.dueHolds("0-" + LEAST + "=" + LEAST);
        Dues.dueHolds("-" + LEAST + "=" + LEAST);
        Dues.dueHolds("-" + MOST + "=" + LEAST + "+1");
        Dues.dueHolds("46340*46340=65536*32767-22512 and 46340*46340>0");
        Dues.dueHolds("46341*46341<0 and 46341*46341=-(65536*32767+60903)");
        Dues.dueHolds("65536*32767>0 and 65536*32768<0 and 65536*32768=" + LEAST);
        Dues.dueHolds("-65536*32768<0 and -65536*32769>0");
        Dues.dueHolds("65536*65535=-65536 and 65536*65536=0");
        Dues.dueHolds(LEAST + "*-1=" + LEAST + " and " + MOST + "*-1=" + LEAST + "+1");
        Dues.dueHolds("999999*999999=-(729*1000*1000+379967)");
        // What is compared has been wrapped around, and comparing wraps nothing.
        Dues.dueHolds("not " + MOST + "<" + LEAST + " and " + MOST + ">" + LEAST + " and " + LEAST + "<=" + MOST);
        Dues.dueHolds("min(" + MOST + "," + LEAST + ")=" + LEAST + " and max(" + MOST + "," + LEAST + ")=" + MOST);
        Dues.dueHolds("max(" + MOST + "+1,0)=0 and min(" + LEAST + "-1,0)=0");
    }

    private static void cutTowards0() {
        String[] sums = {"1/2=0", "2/2=1", "3/2=1", "-1/2=0", "-2/2=-1", "-3/2=-1", "1/-2=0", "3/-2=-1", "-3/-2=1",
            "7/2=3", "-7/2=-3", "7/-2=-3", "-7/-2=3", "99/100=0", "-99/100=0", "100/100=1", "-100/100=-1",
            LEAST + "/2=-65536*16384", MOST + "/2=65536*16384-1", MOST + "/" + LEAST + "=0", LEAST + "/" + MOST + "=-1"};
        for (String sum : sums) {
            Dues.dueHolds(sum);
        }
    }

    private static void zeroOnTheRight() {
        for (String left : new String[] {"0", "1", "-1", "999999", MOST, LEAST}) {
            Dues.dueHolds(left + "/0=0");
            Dues.dueHolds(left + "/(1-1)=0");
            Dues.dueHolds(left + "/1=" + left);
            Dues.dueHolds(left + "/-1=-" + left);
        }
        Dues.dueHolds("0/5=0 and 5/evening=0");
    }

    private static void theLeastOverMinus1() {
        Dues.dueHolds(LEAST + "/-1=" + LEAST);
        Dues.dueHolds(LEAST + "/-1<0");
        Dues.dueHolds("(" + LEAST + "+1)/-1=" + MOST);
        Dues.dueHolds(LEAST + "/1=" + LEAST);
        Dues.dueHolds(LEAST + "/-2=65536*16384");
        Dues.dueHolds("65536*32768/-1=65536*32768");
    }

    // ---- evenings

    private static void notesInTheirOrder() {
        MaskPlays x = Dues.told("actor a; play p is a; play q is [a a]; give q to p when 1=1; give p to q when 1=1;");
        Dues.due("passEvenings", x.passEvenings(1), 2);
        Dues.dueText(x, 0, "[a [a a]]");
        Dues.dueText(x, 1, "[[a a] [a [a a]]]");
        MaskPlays y = Dues.told("actor a; play p is a; play q is [a a]; give p to q when 1=1; give q to p when 1=1;");
        Dues.due("passEvenings", y.passEvenings(1), 2);
        Dues.dueText(y, 1, "[[a a] a]");
        Dues.dueText(y, 0, "[a [[a a] a]]");
        // What an earlier note did is seen by the test of a later one, and not the other way.
        MaskPlays z = Dues.told("actor a; play p is a; play c is a; give c to c when size p=3;"
                + " give p to p when size p=1; give p to p when size p=3; give c to c when size p=7;");
        Dues.due("passEvenings", z.passEvenings(1), 3);
        Dues.due("sizeOf c", z.sizeOf(1), 3);
        Dues.due("sizeOf p", z.sizeOf(0), 7);
        MaskPlays w = Dues.told("actor a; play p is [mask x(x) a]; play q is p; step p; step q when 1=2;");
        Dues.due("passEvenings", w.passEvenings(1), 1);
        Dues.dueText(w, 0, "a");
        Dues.dueText(w, 1, "[mask x(x) a]");
        Dues.due("no notes", Dues.told("actor a; play p is [mask x(x) a];").passEvenings(20), 0);
        String gifts = "give p to p when 1=2; ".repeat(15) + "give p to p when 1=1;";
        Dues.due("the 16th note", Dues.told("actor a; play p is a; " + gifts).passEvenings(1), 1);
    }

    private static void steps() {
        String even = "mask u([" + "a ".repeat(37) + "])";
        MaskPlays x = Dues.told("actor a; play p is [mask x(mask w([x x])) " + even + "];"
                + " play q is [mask x(mask v(mask w([x x]))) " + even + "]; play r is a; step p; step q; step r;");
        Dues.due("passEvenings", x.passEvenings(1), 1);
        Dues.due("sizeOf p", x.sizeOf(0), 150);
        Dues.due("sizeOf q", x.sizeOf(1), 81);
        Dues.due("stepsDone", x.stepsDone(0) * 100 + x.stepsDone(1) * 10 + x.stepsDone(2), 100);
        // The large one has ready scenes still, and gets smaller by them.
        Dues.due("passEvenings", x.passEvenings(1), 1);
        Dues.due("stepsDone", x.stepsDone(0) * 100 + x.stepsDone(1) * 10 + x.stepsDone(2), 200);
        MaskPlays y = Dues.told("actor a; " + ID + "play p is [i i i a]; step p; step p;");
        Dues.due("two notes, one step each", y.passEvenings(1), 2);
        Dues.due("stepsDone", y.stepsDone(1), 2);
        Dues.due("the last one", y.passEvenings(1), 1);
        Dues.due("stepsDone", y.stepsDone(1), 3);
        MaskPlays z = Dues.told(SELF + "step o;");
        Dues.due("the same text", z.passEvenings(3), 0);
        Dues.due("stepsDone", z.stepsDone(0), 3);
    }

    private static void gifts() {
        MaskPlays x = Dues.told("actor a; actor b; play p is a; play q is b; give p to q when 1=1;");
        Dues.due("passEvenings", x.passEvenings(1), 1);
        Dues.dueText(x, 0, "a");
        Dues.dueText(x, 1, "[b a]");
        x.give(1, 0);
        Dues.due("passEvenings", x.passEvenings(1), 1);
        Dues.dueText(x, 1, "[[b a] [a [b a]]]");
        MaskPlays self = Dues.told("actor a; play p is [a a]; give p to p when evening=0;");
        Dues.due("passEvenings", self.passEvenings(2), 1);
        Dues.dueText(self, 0, "[[a a] [a a]]");
        String odd = "play p is [" + "a ".repeat(38) + "]; ";
        String even = "play q is mask x([" + "a ".repeat(37) + "]); ";
        String other = "play r is [" + "a ".repeat(37) + "]; ";
        dueGift("actor a; " + odd + even + other, 0, 1, 150);
        dueGift("actor a; " + odd + even + other, 1, 0, 150);
        dueGift("actor a; " + odd + even + other, 0, 0, 75);
        dueGift("actor a; " + odd + even + other, 1, 1, 149);
        dueGift("actor a; " + odd + even + other, 0, 2, 149);
        dueGift("actor a; play p is a; play q is [" + "a ".repeat(75) + "]; ", 0, 1, 149);
        dueGift("actor a; play p is a; play q is mask x([" + "a ".repeat(74) + "]); ", 0, 1, 150);
        dueGift("actor a; play p is mask x(x); play q is mask x([" + "a ".repeat(74) + "]); ", 0, 1, 148);
        dueGift("actor a; play p is mask x([" + "a ".repeat(74) + "]); play q is a; ", 0, 1, 150);
        dueGift("actor a; play p is [" + "a ".repeat(75) + "]; play q is a; ", 0, 1, 1);
    }

    /** Of plays p, q, r: the size of the one to which is given, by a note in an evening. */
    private static void dueGift(String told, int gift, int to, int size) {
        MaskPlays x = Dues.told(told + "give " + (char) ('p' + gift) + " to " + (char) ('p' + to) + " when evening=0;");
        int given = x.sizeOf(gift);
        int before = x.sizeOf(to);
        Dues.due("sizeAfterEvenings", x.sizeAfterEvenings(to, 1), size);
        Dues.due("passEvenings", x.passEvenings(1), size == before ? 0 : 1);
        Dues.due("sizeOf " + before + " and " + given, x.sizeOf(to), size);
        if (gift != to) {
            Dues.due("sizeOf what is given", x.sizeOf(gift), given);
        }
    }

    private static void renewals() {
        MaskPlays x = Dues.told("actor a; " + ID + "play p is [i a]; play q is [i a]; step p; step q; renew p when 1=1;");
        Dues.due("passEvenings", x.passEvenings(1), 3);
        Dues.dueText(x, 1, "[mask x(x) a]");
        Dues.dueText(x, 2, "a");
        Dues.due("stepsDone", x.stepsDone(1), 1);
        x.give(2, 1);
        Dues.due("passEvenings", x.passEvenings(1), 2);
        Dues.dueText(x, 1, "[mask x(x) a]");
        MaskPlays y = Dues.told("actor a; play p is a; give p to p when evening<3; renew p when evening=3;");
        Dues.due("passEvenings", y.passEvenings(4), 4);
        Dues.dueText(y, 0, "a");
    }

    private static void carriedOut() {
        // Renewing what has its text already, stepping to the same text, and what cannot be done, are not.
        MaskPlays x = Dues.told("actor a; play p is a; renew p when 1=1; step p; give p to p when 1=2;");
        Dues.due("passEvenings", x.passEvenings(20), 0);
        MaskPlays y = Dues.told(SELF + "step o;");
        Dues.due("passEvenings", y.passEvenings(20), 0);
        Dues.due("notesCarriedOut", y.notesCarriedOut(), 0);
        MaskPlays grows = Dues.told("play o is [mask x([x x x]) mask x([x x x])]; step o;");
        Dues.due("passEvenings", grows.passEvenings(1), 1);
        // Another name of a mask is another text, though the play is the same.
        MaskPlays z = Dues.told(ID + "play k is mask y(y); renew i when 1=1;");
        z.give(1, 0);
        z.doStep(0);
        Dues.due("isAsTold", z.isAsTold(0), true);
        Dues.due("passEvenings", z.passEvenings(1), 1);
        Dues.due("passEvenings", z.passEvenings(1), 0);
        // By the first step it has other names of masks, by the second one the same text.
        MaskPlays w = Dues.told("play q is [mask x([x x]) mask y([y y])]; step q;");
        Dues.due("passEvenings", w.passEvenings(1), 1);
        Dues.dueText(w, 0, "[mask y([y y]) mask y([y y])]");
        Dues.due("isAsTold", w.isAsTold(0), true);
        Dues.due("passEvenings", w.passEvenings(1), 0);
        // Only the name of a mask without uses, at the beginning of the text.
        MaskPlays name = Dues.told("play p is mask x(mask w(w)); play q is mask y(mask w(w)); renew p when 1=1;");
        name.give(1, 0);
        name.doStep(0);
        name.give(1, 0);
        name.doStep(0);
        Dues.dueText(name, 0, "mask y(mask w(w))");
        Dues.due("passEvenings", name.passEvenings(2), 1);
        Dues.dueText(name, 0, "mask x(mask w(w))");
        // A note that changes a play, and one that changes it back, are two.
        MaskPlays back = Dues.told("actor a; play p is [mask x(x) a]; step p; renew p when 1=1;");
        Dues.due("passEvenings", back.passEvenings(20), 40);
    }

    private static void theNumberOfEvenings() {
        MaskPlays x = Dues.told("actor a; play p is a; give p to p when evening=0; give p to p when evening=0;"
                + " give p to p when evening=1;");
        Dues.due("in the first one it is 0", x.passEvenings(1), 2);
        Dues.due("evenings", x.evenings(), 1);
        Dues.due("in the second one it is 1", x.passEvenings(1), 1);
        Dues.due("evenings", x.evenings(), 2);
        Dues.due("then 2 and more", x.passEvenings(20), 0);
        Dues.due("evenings", x.evenings(), 22);
        MaskPlays y = Dues.told("actor a; play p is a; give p to p when evening=19; give p to p when evening=20;");
        Dues.due("0 to 19", y.passEvenings(20), 1);
        Dues.due("20", y.passEvenings(1), 1);
    }

    private static void valuesInSums() {
        String told = "play p is [mask x(mask y([y x])) a]; play r is mask x(x); ";
        String[] hold = {"evening=0", "size p=7", "masks p=2", "steps p=0", "size r=2", "masks r=1", "size g=1",
            "masks g=0", "size p+masks p*10+steps p=27"};
        for (String test : hold) {
            Dues.due(test, Dues.holds(told, test), true);
            Dues.due("not " + test, Dues.holds(told, "not " + test), false);
        }
        MaskPlays x = Dues.told("actor a; " + ID + "play p is [i [i [i [i a]]]]; play c is a; step p when evening=1;"
                + " renew p when evening=2; give c to c when steps p=3 and size p=13 and masks p=4 and evening=3;");
        x.doStep(1);
        Dues.due("passEvenings", x.passEvenings(2), 1);
        Dues.due("stepsDone", x.stepsDone(1), 2);
        Dues.due("passEvenings", x.passEvenings(1), 1);
        x.doStep(1);
        x.renew(1);
        Dues.due("stepsDone", x.stepsDone(1), 3);
        Dues.due("passEvenings", x.passEvenings(1), 1);
        Dues.due("sizeOf c", x.sizeOf(2), 3);
    }

    private static void finishedAndSame() {
        String told = "play p is mask x(mask y([y x])); play q is mask y(mask x([x y])); play r is mask y(mask x([y x]));"
                + " play s is [p a]; play t is [a p]; play u is [p a]; ";
        String[] hold = {"finished p", "finished t", "not finished s", "same p q", "same q p", "same p p", "not same p r",
            "not same r p", "not same s t", "same s u", "finished g", "same g g"};
        for (String test : hold) {
            Dues.due(test, Dues.holds(told, test), true);
            Dues.due("not " + test, Dues.holds(told, "not " + test), false);
        }
        // As the plays are at this turn.
        MaskPlays x = Dues.told("actor a; " + ID + "play p is [i a]; play q is a; play c is a;"
                + " give c to c when finished p or same p q; step p; give c to c when finished p and same p q;");
        Dues.due("passEvenings", x.passEvenings(1), 2);
        Dues.due("sizeOf c", x.sizeOf(3), 3);
    }

    private static void bothAndEither() {
        String[] single = {"1=2", "1=1"};
        for (int a = 0; a < 2; a++) {
            for (int b = 0; b < 2; b++) {
                dueTest(single[a] + " and " + single[b], a == 1 && b == 1);
                dueTest(single[a] + " or " + single[b], a == 1 || b == 1);
                dueTest("not " + single[a] + " and " + single[b], a == 0 && b == 1);
                dueTest("not " + single[a] + " or " + single[b], a == 0 || b == 1);
                dueTest("not [" + single[a] + " and " + single[b] + "]", a == 0 || b == 0);
                for (int c = 0; c < 2; c++) {
                    dueTest(single[a] + " or " + single[b] + " and " + single[c], a == 1 || b == 1 && c == 1);
                    dueTest(single[a] + " and " + single[b] + " or " + single[c], a == 1 && b == 1 || c == 1);
                    dueTest("[" + single[a] + " or " + single[b] + "] and " + single[c], (a == 1 || b == 1) && c == 1);
                    dueTest(single[a] + " or not " + single[b] + " and " + single[c], a == 1 || b == 0 && c == 1);
                }
            }
        }
    }

    private static void dueTest(String test, boolean want) {
        Dues.due(test, Dues.holds("", test), want);
    }

    // ---- exceptions

    private static void throwingChangesNothing() {
        String even = "mask u([" + "a ".repeat(38) + "])";
        MaskPlays x = Dues.told("actor a; " + ID + "play p is [mask x([x x x]) " + even + "]; play q is [i a]; " + SELF
                + "play r is [i p]; step q; renew q when evening=2; give i to i when evening=1;");
        x.passEvenings(2);
        Dues.due("teach", Dues.teach(x, "actor b; step q;"), 3);
        Dues.feed(x, " ".repeat(1981));
        x.give(1, 0);
        long before = x.digest();
        Dues.Call[] calls = {() -> x.feed(1, 2, 3, 4, 5), () -> x.trim(-1), () -> x.trim(1982), () -> x.sizeOf(5),
            () -> x.masksIn(5), () -> x.scenesIn(5), () -> x.mostMasksAround(5), () -> x.standsIn(0, 1),
            () -> x.standsIn(5, 0), () -> x.stepsDone(5), () -> x.isFinished(5) ? 1 : 0, () -> x.canStep(5) ? 1 : 0,
            () -> x.textLength(5), () -> x.letterAt(0, 1000), () -> x.letterAt(5, 0), () -> x.nextSceneAt(2),
            () -> x.nextSceneAt(5), () -> x.renamedByStep(1), () -> x.renamedByStep(2), () -> x.renamedByStep(5),
            () -> x.isSame(0, 5) ? 1 : 0, () -> x.isSame(5, 0) ? 1 : 0, () -> x.isAsTold(5) ? 1 : 0,
            () -> x.doStep(1), () -> x.doStep(2), () -> x.doStep(5), () -> x.give(1, 0), () -> x.give(1, 1),
            () -> x.give(5, 0), () -> x.give(0, 5), () -> x.renew(5), () -> x.renew(-1), () -> x.passEvenings(0),
            () -> x.passEvenings(21), () -> x.stepsToFinish(1), () -> x.stepsToFinish(3), () -> x.stepsToFinish(4),
            () -> x.stepsToFinish(5), () -> x.sizeAfterSteps(0, 41), () -> x.sizeAfterSteps(5, 0),
            () -> x.endSame(0, 5) ? 1 : 0, () -> x.endSame(5, 0) ? 1 : 0, () -> x.sizeAfterEvenings(0, 21),
            () -> x.sizeAfterEvenings(5, 1), () -> x.eveningsUntilFinished(5), () -> x.bestGift(5)};
        for (int n = 0; n < calls.length; n++) {
            Dues.due("call " + n + " throws", Dues.thrownBy(calls[n]).endsWith("Exception"), true);
            Dues.due("digest behind call " + n, x.digest(), before);
            Dues.due("errorAt behind call " + n, x.errorAt(), 14);
        }
        Dues.due("the tape is as it was", x.teach(), 0);
    }

    private static void theOneNamedFirst() {
        MaskPlays x = Dues.told("actor a; play p is [" + "a ".repeat(75) + "]; play q is a;");
        for (int none : new int[] {-1, 2, Integer.MIN_VALUE, Integer.MAX_VALUE}) {
            for (int wrong : new int[] {-1, 41, Integer.MIN_VALUE, Integer.MAX_VALUE}) {
                Dues.dueThrow("sizeAfterSteps of no play", IndexOutOfBoundsException.class,
                        () -> x.sizeAfterSteps(none, wrong));
                Dues.dueThrow("sizeAfterSteps of a play", IllegalArgumentException.class,
                        () -> x.sizeAfterSteps(0, wrong));
                Dues.dueThrow("sizeAfterEvenings of no play", IndexOutOfBoundsException.class,
                        () -> x.sizeAfterEvenings(none, wrong));
                Dues.dueThrow("sizeAfterEvenings of a play", IllegalArgumentException.class,
                        () -> x.sizeAfterEvenings(0, wrong));
            }
            Dues.dueThrow("sizeAfterEvenings of no play", IndexOutOfBoundsException.class,
                    () -> x.sizeAfterEvenings(none, 0));
            Dues.dueThrow("give of no play", IndexOutOfBoundsException.class, () -> x.give(none, 0));
            Dues.dueThrow("give to no play", IndexOutOfBoundsException.class, () -> x.give(0, none));
        }
        Dues.dueThrow("give", IllegalStateException.class, () -> x.give(0, 0));
        Dues.dueThrow("give", IllegalStateException.class, () -> x.give(1, 0));
    }
}
