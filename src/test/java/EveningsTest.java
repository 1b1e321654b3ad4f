/** Promises 6 to 10, 29, 33 and 34: notes, their tests, and evenings that pass or only would. */
final class EveningsTest {
    private static final String ID = "play i is mask x(x); ";

    private EveningsTest() {
    }

    public static void main(String[] args) {
        counts();
        passing();
        stepsWithTheSameText();
        stepsThatCannotBeDone();
        gifts();
        renewals();
        testsAtTheirTurn();
        sums();
        wrapping();
        orders();
        bothAndEither();
        valuesOfPlays();
        eveningsThatWouldBe();
        untilFinished();
        wrongEvenings();
        Dues.end();
    }

    private static void counts() {
        MaskPlays x = Dues.told("actor a; actor b; play p is a; step p; give p to p when 1=2; renew p when 1=1;"
                + " actor c; play q is p;");
        Dues.due("actors", x.actors(), 3);
        Dues.due("plays", x.plays(), 2);
        Dues.due("notes", x.notes(), 3);
        Dues.due("evenings", x.evenings(), 0);
    }

    private static void passing() {
        MaskPlays x = Dues.told("actor a; play p is [mask x(x) mask x(x) mask x(x) a]; step p;");
        Dues.due("passEvenings(1)", x.passEvenings(1), 1);
        Dues.due("evenings", x.evenings(), 1);
        Dues.due("sizeOf", x.sizeOf(0), 7);
        Dues.due("passEvenings(20)", x.passEvenings(20), 2);
        Dues.due("evenings", x.evenings(), 21);
        Dues.due("notesCarriedOut", x.notesCarriedOut(), 3);
        Dues.due("stepsDone", x.stepsDone(0), 3);
        Dues.due("passEvenings(20)", x.passEvenings(20), 0);
        Dues.due("notesCarriedOut", x.notesCarriedOut(), 3);
        Dues.dueText(x, 0, "a");
    }

    /** Such a step is done and counts, but the note is not carried out. */
    private static void stepsWithTheSameText() {
        MaskPlays x = Dues.told("play p is [mask x([x x]) mask x([x x])]; step p;");
        Dues.due("passEvenings", x.passEvenings(3), 0);
        Dues.due("stepsDone", x.stepsDone(0), 3);
        Dues.due("notesCarriedOut", x.notesCarriedOut(), 0);
        // Another text that is the same but for a name is another text.
        MaskPlays y = Dues.told("play p is mask v([[mask x([x x]) mask x([x x])] v]); step p;");
        Dues.due("passEvenings", y.passEvenings(1), 0);
        Dues.due("stepsDone", y.stepsDone(0), 1);
    }

    private static void stepsThatCannotBeDone() {
        MaskPlays x = Dues.told("actor a; play m is [" + "a ".repeat(38) + "]; play p is [mask x([x x]) m]; step p;");
        Dues.due("passEvenings", x.passEvenings(2), 0);
        Dues.due("stepsDone", x.stepsDone(1), 0);
        Dues.due("sizeOf", x.sizeOf(1), 80);
        // 75 + 75 + 1 parts would be one too many.
        Dues.due("sizeOf m", x.sizeOf(0), 75);
        Dues.due("canStep", x.canStep(1), false);
    }

    private static void gifts() {
        MaskPlays x = Dues.told("actor a; actor b; play p is a; play q is b; give p to q when evening=0;"
                + " give q to p when evening=0; give p to p when evening=1;");
        Dues.due("passEvenings", x.passEvenings(1), 2);
        Dues.dueText(x, 1, "[b a]");
        Dues.dueText(x, 0, "[a [b a]]");
        Dues.due("passEvenings", x.passEvenings(1), 1);
        Dues.dueText(x, 0, "[[a [b a]] [a [b a]]]");
        MaskPlays y = Dues.told("actor a; play p is a; give p to p when 1=1;");
        // 1, 3, 7, 15, 31, 63, 127 parts, and then it has no room.
        Dues.due("passEvenings", y.passEvenings(20), 6);
        Dues.due("sizeOf", y.sizeOf(0), 127);
        Dues.due("stepsDone", y.stepsDone(0), 0);
    }

    private static void renewals() {
        MaskPlays x = Dues.told("actor a; play p is [mask x(x) mask x(x) a]; step p; renew p when evening=1;");
        Dues.due("passEvenings(1)", x.passEvenings(1), 1);
        Dues.due("passEvenings(1)", x.passEvenings(1), 2);
        Dues.dueText(x, 0, "[[mask x(x) mask x(x)] a]");
        Dues.due("stepsDone", x.stepsDone(0), 2);
        MaskPlays y = Dues.told("actor a; play p is a; renew p when 1=1;");
        Dues.due("renew as told", y.passEvenings(5), 0);
        // The same as told, but with another name: so its text is another one by the renewal.
        MaskPlays z = Dues.told(ID + "play k is mask y(y); renew i when evening>=0;");
        z.give(1, 0);
        z.doStep(0);
        Dues.due("isAsTold", z.isAsTold(0), true);
        Dues.due("renew another name", z.passEvenings(2), 1);
        Dues.dueText(z, 0, "mask x(x)");
    }

    private static void testsAtTheirTurn() {
        MaskPlays x = Dues.told("actor a; play p is [mask x(x) a]; play q is a; give q to q when not finished p;"
                + " step p when evening=0; give q to q when finished p and evening=0;"
                + " give q to q when steps p=2; renew p when evening=0; step p when size p=4 and evening=0;"
                + " give q to q when steps p=2 and evening=0;");
        Dues.due("passEvenings", x.passEvenings(1), 6);
        Dues.due("sizeOf q", x.sizeOf(1), 15);
        Dues.due("passEvenings", x.passEvenings(1), 1);
        Dues.due("sizeOf q", x.sizeOf(1), 31);
    }

    private static void sums() {
        Dues.dueHolds("2+3*4=14");
        Dues.dueHolds("(2+3)*4=20");
        Dues.dueHolds("2-3-4=-5");
        Dues.dueHolds("2-(3-4)=3");
        Dues.dueHolds("100/10/5=2");
        Dues.dueHolds("2*3/4=1");
        Dues.dueHolds("2/4*3=0");
        Dues.dueHolds("7/2=3");
        Dues.dueHolds("-7/2=-3");
        Dues.dueHolds("7/-2=-3");
        Dues.dueHolds("-7/-2=3");
        Dues.dueHolds("5/0=0");
        Dues.dueHolds("-5/(1-1)=0");
        Dues.dueHolds("0/0=0");
        Dues.dueHolds("--5=5");
        Dues.dueHolds("1---1=0");
        Dues.dueHolds("1--1=2");
        Dues.dueHolds("-2*3=-6");
        Dues.dueHolds("min(3,5)=3");
        Dues.dueHolds("max(3,5)=5");
        Dues.dueHolds("min(-3,max(2,7)-10)=-3");
        Dues.dueHolds("min(5,3)+max(5,3)=8");
        Dues.dueHolds("000012=12");
    }

    private static void wrapping() {
        Dues.dueHolds("999999*999999=-(729*1000*1000+379967)");
        Dues.dueHolds("65536*32768<0");
        Dues.dueHolds("65536*32768-1>0");
        Dues.dueHolds("65536*65536=0");
        Dues.dueHolds("-(65536*32768)=65536*32768");
        Dues.dueHolds("65536*32768/-1=65536*32768");
        Dues.dueHolds("65536*32767+65535+1=65536*32768");
        Dues.dueHolds("-(65536*32767+65535)-2=65536*32767+65535");
        Dues.dueHolds("65536*32768=-65536*32768");
    }

    private static void orders() {
        String[] orders = {"<", ">", "=", "<=", ">="};
        boolean[] less = {true, false, false, true, false};
        boolean[] equal = {false, false, true, true, true};
        boolean[] more = {false, true, false, false, true};
        for (int n = 0; n < orders.length; n++) {
            Dues.due("1" + orders[n] + "2", Dues.holds("", "1" + orders[n] + "2"), less[n]);
            Dues.due("2" + orders[n] + "2", Dues.holds("", "2" + orders[n] + "2"), equal[n]);
            Dues.due("2" + orders[n] + "1", Dues.holds("", "2" + orders[n] + "1"), more[n]);
            String wide = "65536*32768" + orders[n] + "65536*32768-1";
            Dues.due(wide, Dues.holds("", wide), less[n]);
        }
    }

    private static void bothAndEither() {
        Dues.dueHolds("1=1 or 1=1 and 1=2");
        Dues.dueHolds("1=2 and 1=1 or 1=1");
        Dues.dueNot("[1=1 or 1=1] and 1=2");
        Dues.dueNot("not 1=2 and 1=2");
        Dues.dueHolds("not [1=2 and 1=2]");
        Dues.dueHolds("not 1=1 or 1=1");
        Dues.dueHolds("not not 1=1");
        Dues.dueNot("not not not 1=1");
        Dues.dueHolds("1=2 or 1=2 or 1=1");
        Dues.dueNot("1=1 and 1=2 and 1=1");
        Dues.dueHolds("[[1=1]]");
        Dues.dueNot("1=2 or [1=1 and not [1=1 or 1=2]]");
    }

    private static void valuesOfPlays() {
        String told = "play p is [mask x(mask y([y x])) a]; play q is [mask y(mask x([x y])) a]; play r is mask x(x);";
        String[] hold = {"size p=7", "masks p=2", "steps p=0", "evening=0", "not finished p", "finished r",
            "same p q", "same q p", "same p p", "not same p r", "size r+masks r*10=12", "size g=1", "-size p<0"};
        for (String test : hold) {
            Dues.due(test, Dues.holds(told, test), true);
        }
        MaskPlays x = Dues.told("actor a; " + told + "play g is a; give g to g when steps p=1 and size p=6;"
                + "give g to g when steps p=3 and not same p q and evening=1; renew p when evening=0;");
        x.doStep(0);
        Dues.due("passEvenings", x.passEvenings(1), 1);
        x.doStep(0);
        x.renew(0);
        x.doStep(0);
        Dues.due("passEvenings", x.passEvenings(1), 1);
        Dues.due("stepsDone", x.stepsDone(0), 3);
    }

    private static void eveningsThatWouldBe() {
        MaskPlays x = Dues.told("actor a; play p is [mask x(x) mask x(x) mask x(x) a]; play q is a;"
                + " step p when evening>=2; give q to q when steps p>0; renew p when evening=6;");
        long before = x.digest();
        int[] sizes = {10, 10, 7, 4, 1, 1, 10, 7};
        int[] given = {1, 1, 3, 7, 15, 31, 63, 127};
        for (int n = 1; n <= 8; n++) {
            Dues.due("sizeAfterEvenings p " + n, x.sizeAfterEvenings(0, n), sizes[n - 1]);
            Dues.due("sizeAfterEvenings q " + n, x.sizeAfterEvenings(1, n), given[n - 1]);
            Dues.due("digest", x.digest(), before);
        }
        x.passEvenings(3);
        Dues.due("sizeOf", x.sizeOf(0), 7);
        Dues.due("sizeAfterEvenings", x.sizeAfterEvenings(0, 2), 1);
        Dues.due("sizeAfterEvenings", x.sizeAfterEvenings(0, 20), 1);
        Dues.due("notesCarriedOut", x.notesCarriedOut(), 2);
        x.passEvenings(2);
        Dues.due("sizeOf", x.sizeOf(0), 1);
        Dues.due("stepsDone", x.stepsDone(0), 3);
    }

    private static void untilFinished() {
        MaskPlays x = Dues.told("actor a; " + ID + "play five is [i i i i i i a]; play ten is [five [i i i i a]];"
                + "play n is [i a]; play o is [mask x([x x]) mask x([x x])]; play w is [i [i a]];"
                + "step five; step o; step w when evening=1; step w when evening=4; renew w when evening=4;");
        long before = x.digest();
        Dues.due("now", x.eveningsUntilFinished(0), 0);
        Dues.due("behind 6", x.eveningsUntilFinished(1), 6);
        Dues.due("never", x.eveningsUntilFinished(3), -1);
        Dues.due("never", x.eveningsUntilFinished(4), -1);
        // It is finished in the fifth evening, but not behind it.
        Dues.due("w", x.eveningsUntilFinished(5), -1);
        Dues.due("digest", x.digest(), before);
        x.passEvenings(2);
        Dues.due("behind 4", x.eveningsUntilFinished(1), 4);
        MaskPlays y = Dues.told("actor a; " + ID + "play p is [i [i [i [i [i [i [i a]]]]]]]; play q is [i [i [i [i"
                + " [i [i p]]]]]]; play r is [i [i [i [i [i [i [i q]]]]]]]; play s is [i r]; play t is s;"
                + " step r; step s; step t when evening>0;");
        Dues.due("behind 20", y.eveningsUntilFinished(3), 20);
        Dues.due("behind 21", y.eveningsUntilFinished(4), -1);
        y.doStep(4);
        Dues.due("behind 20 now", y.eveningsUntilFinished(4), 20);
        Dues.due("behind 22", y.eveningsUntilFinished(5), -1);
        y.doStep(5);
        Dues.due("behind 21 now", y.eveningsUntilFinished(5), -1);
        y.doStep(5);
        Dues.due("behind 20 now", y.eveningsUntilFinished(5), 20);
    }

    private static void wrongEvenings() {
        MaskPlays x = Dues.told("actor a; play p is [mask x(x) a]; step p;");
        long before = x.digest();
        for (int evenings : new int[] {0, -1, 21, Integer.MIN_VALUE, Integer.MAX_VALUE}) {
            Dues.dueThrow("passEvenings " + evenings, IllegalArgumentException.class,
                    () -> x.passEvenings(evenings));
            Dues.dueThrow("sizeAfterEvenings " + evenings, IllegalArgumentException.class,
                    () -> x.sizeAfterEvenings(0, evenings));
            // The exception named first is thrown.
            Dues.dueThrow("sizeAfterEvenings of no play " + evenings, IndexOutOfBoundsException.class,
                    () -> x.sizeAfterEvenings(1, evenings));
        }
        for (int play : new int[] {-1, 1, 12, Integer.MIN_VALUE, Integer.MAX_VALUE}) {
            Dues.dueThrow("sizeAfterEvenings of " + play, IndexOutOfBoundsException.class,
                    () -> x.sizeAfterEvenings(play, 1));
            Dues.dueThrow("eveningsUntilFinished of " + play, IndexOutOfBoundsException.class,
                    () -> x.eveningsUntilFinished(play));
        }
        Dues.due("digest", x.digest(), before);
    }
}
