/** Promises 1 to 5 and 11: a new object, the tape, and the errors 1 to 5. */
final class TapeTest {
    private static final String PLAY = "play p is mask x(x); ";

    private TapeTest() {
    }

    public static void main(String[] args) {
        aNewObject();
        fedBytes();
        theLimitOfTheTape();
        trimming();
        anErrorLeavesAllAsItWas();
        teachingBeginsAnew();
        tokens();
        wrongTokens();
        wrongLines();
        wrongTests();
        depth();
        countOfTokens();
        namesToldAhead();
        unknownNames();
        tooMany();
        tooManyParts();
        theFirstErrorIsTold();
        readingOneBehindAnother();
        Dues.end();
    }

    private static void aNewObject() {
        MaskPlays x = new MaskPlays();
        Dues.due("new actors", x.actors(), 0);
        Dues.due("new plays", x.plays(), 0);
        Dues.due("new notes", x.notes(), 0);
        Dues.due("new evenings", x.evenings(), 0);
        Dues.due("new notesCarriedOut", x.notesCarriedOut(), 0);
        Dues.due("new tapeBytes", x.tapeBytes(), 0);
        Dues.due("new errorAt", x.errorAt(), -1);
        Dues.due("new teach", x.teach(), 0);
        Dues.due("new plays behind teach", x.plays(), 0);
    }

    private static void fedBytes() {
        MaskPlays x = new MaskPlays();
        // "acto" "r a;" and so on, the highest byte first.
        Dues.due("feed", x.feed(0x6163746f, 0x7220613b, 0x0a0a2020, 0x20202020, 0x6163746f), 20);
        Dues.due("feed", x.feed(0x7220623b, 0x20202020, 0x20202020, 0x20202020, 0x20202020), 40);
        Dues.due("tapeBytes", x.tapeBytes(), 40);
        Dues.due("teach", x.teach(), 0);
        Dues.due("tapeBytes behind teach", x.tapeBytes(), 0);
        Dues.due("actors", x.actors(), 2);
        Dues.due("feed of high bytes", x.feed(0x6163746f, 0x722061ff, -1, Integer.MIN_VALUE, 0), 20);
        Dues.due("teach", x.teach(), 1);
        Dues.due("errorAt", x.errorAt(), 7);
    }

    private static void theLimitOfTheTape() {
        MaskPlays x = new MaskPlays();
        for (int n = 1; n <= 100; n++) {
            Dues.due("feed " + n, x.feed(0x20202020, 0x20202020, 0x20202020, 0x20202020, 0x20202020), 20 * n);
        }
        Dues.dueThrow("feed 101", IllegalStateException.class, () -> x.feed(0, 0, 0, 0, 0));
        Dues.due("tapeBytes", x.tapeBytes(), 2000);
        x.trim(1981);
        Dues.dueThrow("feed to 2001", IllegalStateException.class, () -> x.feed(0, 0, 0, 0, 0));
        x.trim(1980);
        Dues.due("feed to 2000", x.feed(0x20202020, 0x20202020, 0x20202020, 0x20202020, 0x20202020), 2000);
        Dues.due("teach blanks", x.teach(), 0);
    }

    private static void trimming() {
        MaskPlays x = new MaskPlays();
        Dues.due("trim 0 of 0", x.trim(0), 0);
        Dues.dueThrow("trim 1 of 0", IllegalArgumentException.class, () -> x.trim(1));
        Dues.feed(x, "actor a; actor b;");
        Dues.due("tapeBytes", x.tapeBytes(), 17);
        Dues.dueThrow("trim 18 of 17", IllegalArgumentException.class, () -> x.trim(18));
        Dues.dueThrow("trim -1", IllegalArgumentException.class, () -> x.trim(-1));
        Dues.dueThrow("trim least", IllegalArgumentException.class, () -> x.trim(Integer.MIN_VALUE));
        Dues.dueThrow("trim most", IllegalArgumentException.class, () -> x.trim(Integer.MAX_VALUE));
        Dues.due("trim 17 of 17", x.trim(17), 17);
        Dues.due("trim 8 of 17", x.trim(8), 8);
        Dues.due("tapeBytes", x.tapeBytes(), 8);
        Dues.due("teach", x.teach(), 0);
        Dues.due("actors", x.actors(), 1);
    }

    private static void anErrorLeavesAllAsItWas() {
        MaskPlays x = Dues.told("actor a; play p is [mask x([x x]) a]; step p;");
        x.doStep(0);
        x.passEvenings(2);
        long before = x.digest();
        String[] wrong = {"actor a; play q is a", "actor a; actor a;", "actor b; play q is c;",
            "actor b; play q is b; play r is [q q]; step a;"};
        int[] errors = {1, 2, 3, 3};
        int[] places = {20, 15, 19, 44};
        for (int n = 0; n < wrong.length; n++) {
            Dues.due(wrong[n], Dues.teach(x, wrong[n]), errors[n]);
            Dues.due(wrong[n] + " errorAt", x.errorAt(), places[n]);
            Dues.due(wrong[n] + " digest", x.digest(), before);
            Dues.dueText(x, 0, "[a a]");
            Dues.due("renew", x.renew(0), 6);
            Dues.due("doStep", x.doStep(0), 3);
            before = x.digest();
        }
        Dues.due("teach", Dues.teach(x, "actor b;"), 0);
        Dues.due("errorAt", x.errorAt(), -1);
    }

    private static void teachingBeginsAnew() {
        MaskPlays x = Dues.told("actor a; actor b; play p is [mask x([x x]) a]; play q is b; step p; step q;");
        x.passEvenings(3);
        Dues.due("stepsDone", x.stepsDone(0), 1);
        Dues.due("teach", Dues.teach(x, "actor b; play q is [mask y(y) b]; renew q when 1=1;"), 0);
        Dues.due("actors", x.actors(), 1);
        Dues.due("plays", x.plays(), 1);
        Dues.due("notes", x.notes(), 1);
        Dues.due("evenings", x.evenings(), 0);
        Dues.due("notesCarriedOut", x.notesCarriedOut(), 0);
        Dues.due("stepsDone", x.stepsDone(0), 0);
        Dues.dueText(x, 0, "[mask y(y) b]");
        Dues.due("teach nothing", x.teach(), 0);
        Dues.due("plays", x.plays(), 0);
        Dues.due("notes", x.notes(), 0);
    }

    private static void tokens() {
        Dues.told("actor\na;play\n\np is[a a];step p when 1=12and 1<=2or 000001>=1;");
        Dues.told("  \n actor abcdefghij ; actor a123456789; actor step1; actor is0 ;\n ");
        Dues.told(PLAY + "step p when 999999=999999;");
        Dues.dueError(1, "^actora;");
        Dues.dueError(1, "actor ^abcdefghijk;");
        Dues.dueError(1, "actor ^a1234567890;");
        Dues.dueError(1, "^1actor a;");
        Dues.dueError(1, "actor a1b ^c;");
        Dues.dueError(1, "actor a; play p is a ^1b;");
        Dues.dueError(1, PLAY + "step p when ^1234567=1;");
        Dues.dueError(1, PLAY + "step p when ^0000001=1;");
        Dues.dueError(1, PLAY + "step p when 1 < ^= 2;");
        Dues.dueError(1, PLAY + "step p when 1 =^< 2;");
        Dues.dueError(1, PLAY + "step p when 1 =^> 2;");
        Dues.dueError(1, PLAY + "step p when 1 =^= 2;");
        Dues.dueError(1, PLAY + "step p when 1 <=^= 2;");
        for (char sign : new char[] {'\t', '\r', 0, 'A', '_', '.', '{', '#', 127, 128, 160, 255}) {
            Dues.dueErrorAt(1, 9, "actor a; " + sign + "actor b;");
        }
    }

    private static void wrongTokens() {
        Dues.dueError(1, "^;");
        Dues.dueError(1, "^a;");
        Dues.dueError(1, "^mask x(x);");
        Dues.dueError(1, "actor ^;");
        Dues.dueError(1, "actor a^");
        Dues.dueError(1, "actor a \n ^");
        Dues.dueError(1, "actor^");
        Dues.dueError(1, "actor a ^b;");
        Dues.dueError(1, "actor a;^;");
        for (String keyword : ("actor play is mask step give to renew when evening size masks steps"
                + " finished same not and or min max").split(" ")) {
            Dues.dueError(1, "actor ^" + keyword + ";");
        }
        // A word is a keyword only as a whole.
        Dues.told("actor actors; actor pla; actor masks0; actor minmax;");
    }

    private static void wrongLines() {
        Dues.dueError(1, "play p ^mask x(x);");
        Dues.dueError(1, "play p is ^;");
        Dues.dueError(1, "play p is ^1;");
        Dues.dueError(1, "play p is ^(a);");
        Dues.dueError(1, "play p is a ^a;");
        Dues.dueError(1, "play p is [^];");
        Dues.dueError(1, "play p is [ a ^];");
        Dues.dueError(1, "play p is [ a a ^;");
        Dues.dueError(1, "play p is [ a a ^)];");
        Dues.dueError(1, "play p is mask ^(x);");
        Dues.dueError(1, "play p is mask x ^x;");
        Dues.dueError(1, "play p is mask x ^[x x];");
        Dues.dueError(1, "play p is mask x(^);");
        Dues.dueError(1, "play p is mask x(x ^x);");
        Dues.dueError(1, "play p is mask x(x^;");
        Dues.dueError(1, "play p is mask x(x)^");
        Dues.dueError(1, PLAY + "step p ^p;");
        Dues.dueError(1, PLAY + "step p when ^;");
        Dues.dueError(1, PLAY + "give p ^p;");
        Dues.dueError(1, PLAY + "give p to p^;");
        Dues.dueError(1, PLAY + "renew p^;");
        Dues.dueError(1, PLAY + "renew ^1 when 1=1;");
    }

    private static void wrongTests() {
        String when = PLAY + "step p when ";
        Dues.dueError(1, when + "1^;");
        Dues.dueError(1, when + "1 ^and 2=1;");
        Dues.dueError(1, when + "1=1 ^1=1;");
        Dues.dueError(1, when + "1=1^=1;");
        Dues.dueError(1, when + "1=1 and ^;");
        Dues.dueError(1, when + "1=1 or ^or 1=1;");
        Dues.dueError(1, when + "1=1 or ^;");
        Dues.dueError(1, when + "[1=1 or ^];");
        Dues.dueError(1, when + "[1=1 and ^];");
        Dues.dueError(1, when + "1=1+^;");
        Dues.dueError(1, when + "1=1-^;");
        Dues.dueError(1, when + "1=1*^;");
        Dues.dueError(1, when + "1=(1/^);");
        Dues.dueError(1, when + "(1^=1);");
        Dues.dueError(1, when + "[1^];");
        Dues.dueError(1, when + "[1=1^);");
        Dues.dueError(1, when + "1=^[1];");
        Dues.dueError(1, when + "1=^not 1;");
        Dues.dueError(1, when + "1=^finished p;");
        Dues.dueError(1, when + "finished ^1;");
        Dues.dueError(1, when + "finished p ^p;");
        Dues.dueError(1, when + "same p^;");
        Dues.dueError(1, when + "size ^(p)=1;");
        Dues.dueError(1, when + "^p=1;");
        Dues.dueError(1, when + "evening ^p=1;");
        Dues.dueError(1, when + "min ^1=1;");
        Dues.dueError(1, when + "min(1^)=1;");
        Dues.dueError(1, when + "min(1,1^,1)=1;");
        Dues.dueError(1, when + "max(1^=1,1)=1;");
        Dues.dueError(1, when + "1+^+1=2;");
        Dues.dueError(1, when + "1*^/1=2;");
        Dues.dueError(1, when + "^+1=1;");
        Dues.dueError(1, when + "1--^;");
    }

    private static void depth() {
        String start = "actor a; ";
        Dues.told(start + "play p is " + "[a ".repeat(8) + "a" + "]".repeat(8) + ";");
        Dues.dueError(1, start + "play p is " + "[a ".repeat(8) + "^[a a" + "]".repeat(9) + ";");
        Dues.told(start + "play p is " + "mask x(".repeat(8) + "x" + ")".repeat(8) + ";");
        Dues.dueError(1, start + "play p is " + "mask x(".repeat(8) + "mask x^(x" + ")".repeat(9) + ";");
        Dues.told(start + "play p is " + "mask x([x ".repeat(4) + "x" + "])".repeat(4) + ";");
        Dues.dueError(1, start + "play p is " + "mask x([x ".repeat(4) + "mask y^(x)" + "])".repeat(4) + ";");
        // Behind a closing sign it is less deep again.
        Dues.told(start + "play p is [" + "[a a] ".repeat(20) + "];");
        String when = PLAY + "step p when ";
        Dues.told(when + "not ".repeat(8) + "1=1 and " + "not ".repeat(8) + "1=1;");
        Dues.dueError(1, when + "not ".repeat(8) + "^not 1=1;");
        Dues.told(when + "1=" + "-".repeat(8) + "1-" + "-".repeat(8) + "1;");
        Dues.dueError(1, when + "1=" + "-".repeat(8) + "^-1;");
        Dues.told(when + "[".repeat(8) + "1=1" + "]".repeat(8) + ";");
        Dues.dueError(1, when + "[".repeat(8) + "^[1=1" + "]".repeat(9) + ";");
        Dues.told(when + "(".repeat(8) + "1" + ")".repeat(8) + "=1;");
        Dues.dueError(1, when + "(".repeat(8) + "^(1" + ")".repeat(9) + "=1;");
        Dues.told(when + "not [not [-(-min(1,2))=1]];");
        Dues.told(when + "not [not [not -(-1)=1]];");
        Dues.dueError(1, when + "not [not [-(-max(1,^-1))=1]];");
        Dues.dueError(1, when + "not [not [not -(-max^(1,1))=1]];");
        Dues.dueError(1, when + "not [not [not -(-^(1))=1]];");
        Dues.dueError(1, when + "not [not [not -(-^-1)=1]];");
        Dues.told(when + "1=" + "min(".repeat(8) + "1" + ",1)".repeat(8) + ";");
        Dues.dueError(1, when + "1=" + "min(".repeat(8) + "max^(1" + ",1)".repeat(9) + ";");
        Dues.told(when + "1=" + "max(1,".repeat(8) + "1" + ")".repeat(8) + ";");
        Dues.dueError(1, when + "1=" + "max(1,".repeat(8) + "min^(1,1" + ")".repeat(9) + ";");
        // A - between two values makes nothing deeper.
        Dues.told(when + "1" + "-1".repeat(30) + "=1;");
    }

    private static void countOfTokens() {
        StringBuilder most = new StringBuilder("actor a;");
        // 3 tokens of the actor, and 6 of each play beside the names in it: 400 in all.
        for (int play = 0; play < 5; play++) {
            most.append("play p").append(play).append(" is [").append("a ".repeat(play < 3 ? 73 : 74)).append("];");
        }
        Dues.told(most.toString());
        Dues.told(most + " \n ");
        Dues.dueErrorAt(1, most.length() + 1, most + " actor b;");
        Dues.dueErrorAt(1, most.length(), most + ";");
        Dues.dueErrorAt(1, most.length(), most + "!");
        Dues.dueErrorAt(1, most.length() + 1, most.substring(0, most.length() - 2) + "a ];");
        Dues.dueErrorAt(1, 133 * 8 + 6, "actor a;".repeat(140));
        Dues.dueErrorAt(2, 14, "actor a;".repeat(133));
        Dues.dueErrorAt(1, 133 * 8 + 5, "actor a;".repeat(133) + "actor");
    }

    private static void namesToldAhead() {
        Dues.dueError(2, "actor a; actor ^a;");
        Dues.dueError(2, "actor a; play ^a is a;");
        Dues.dueError(2, PLAY + "actor ^p;");
        Dues.dueError(2, PLAY + "play ^p is p;");
        Dues.dueError(2, "actor a; play p is mask ^a(a);");
        Dues.dueError(2, PLAY + "play q is mask ^p(p);");
        Dues.dueError(2, "actor a; play p is [a mask x(mask ^a(x))];");
        // These are not told ahead of it.
        Dues.told("play p is mask p(p);");
        Dues.told("play p is mask x(mask x(x)); actor x;");
        Dues.told("play p is mask q(q); play q is mask r(r);");
    }

    private static void unknownNames() {
        Dues.dueError(3, "play p is ^p;");
        Dues.dueError(3, "play p is ^q; play q is mask x(x);");
        Dues.dueError(3, "play p is mask x(^y);");
        Dues.dueError(3, "play p is [mask x(x) ^x];");
        Dues.dueError(3, "play p is mask x([mask y(y) ^y]);");
        Dues.dueError(3, "play p is [[mask x(mask y(x)) mask y(y)] ^y];");
        Dues.dueError(3, "step ^p;");
        Dues.dueError(3, "actor a; step ^a;");
        Dues.dueError(3, "step ^p; " + PLAY);
        Dues.dueError(3, PLAY + "step ^x;");
        Dues.dueError(3, PLAY + "give ^q to p when 1=1;");
        Dues.dueError(3, PLAY + "give p to ^q when 1=1;");
        Dues.dueError(3, PLAY + "renew ^q when 1=1;");
        Dues.dueError(3, "actor a;" + PLAY + "renew ^a when 1=1;");
        Dues.dueError(3, PLAY + "step p when 1=1 or 1=size ^q;");
        Dues.dueError(3, PLAY + "step p when masks ^q=1;");
        Dues.dueError(3, PLAY + "step p when -steps ^q=1;");
        Dues.dueError(3, PLAY + "step p when not finished ^q;");
        Dues.dueError(3, PLAY + "step p when same p ^q;");
        Dues.dueError(3, PLAY + "step p when same ^q p;");
        Dues.dueError(3, "actor a;" + PLAY + "step p when finished ^a;");
    }

    private static void tooMany() {
        StringBuilder actors = new StringBuilder();
        for (int n = 0; n < 8; n++) {
            actors.append("actor a").append(n).append("; ");
        }
        Dues.told(actors.toString());
        Dues.dueError(4, actors + "actor ^a8;");
        Dues.dueError(2, actors + "actor ^a7;");
        StringBuilder plays = new StringBuilder("actor a; ");
        for (int n = 0; n < 12; n++) {
            plays.append("play p").append(n).append(" is a; ");
        }
        Dues.told(plays.toString());
        Dues.dueError(4, plays + "play ^p12 is b;");
        Dues.dueError(2, plays + "play ^p11 is a;");
        Dues.dueError(2, plays + "play ^a is a;");
        StringBuilder notes = new StringBuilder(PLAY);
        for (int n = 0; n < 16; n++) {
            notes.append(n % 3 == 0 ? "step p; " : n % 3 == 1 ? "give p to p when 1=2; " : "renew p when 1=1; ");
        }
        Dues.due("notes", Dues.told(notes.toString()).notes(), 16);
        Dues.dueError(4, notes + "^step q;");
        Dues.dueError(4, notes + "^give p to p when 1=1;");
        Dues.dueError(4, notes + "^renew p when 1=1;");
        Dues.told(notes + "actor a; play q is p;");
    }

    private static void tooManyParts() {
        String names = "a ".repeat(75);
        Dues.due("149 parts", Dues.told("actor a; play p is [" + names + "];").sizeOf(0), 149);
        Dues.due("150 parts", Dues.told("actor a; play p is mask x([" + names + "]);").sizeOf(0), 150);
        Dues.dueError(5, "actor a; play p is [a " + names + "]^;");
        Dues.dueError(5, "actor a; play p is mask x(mask x([" + names + "])) ^; play q is p;");
        Dues.dueError(5, "actor a; play p is [" + names + "]; play q is p; play r is [p q]^;");
        Dues.dueError(5, "actor a; play p is [" + names + "]; play r is [" + "p ".repeat(150) + "]^;");
        // A name that is not known is ahead of the ; of its line.
        Dues.dueError(3, "actor a; play p is [" + names + "a a a ^b];");
    }

    private static void theFirstErrorIsTold() {
        Dues.dueError(1, "actor a; actor a; actor ^1;");
        Dues.dueError(2, "actor a; actor ^a; step q;");
        Dues.dueError(3, "actor a; step ^q; actor a;");
        Dues.dueError(3, "actor a; play p is [^b mask a(a)];");
        Dues.dueError(2, "actor a; play p is [mask ^a(a) b];");
    }

    /** What one tape told, or where its reading ended, is nothing for the next one. */
    private static void readingOneBehindAnother() {
        MaskPlays x = new MaskPlays();
        Dues.due("an error below a mask", Dues.teach(x, "play p is mask x(mask y([x z]));"), 3);
        Dues.due("the mask is none now", Dues.teach(x, "play p is mask z(x);"), 3);
        Dues.due("errorAt", x.errorAt(), 17);
        Dues.due("the mask is none now", Dues.teach(x, "play p is mask z(y);"), 3);
        String book = "actor a; play p is a;" + "give p to p when [1+2*3-4=3 and not evening<0] or 1=2;".repeat(9);
        for (int n = 0; n < 80; n++) {
            Dues.due("teach " + n, Dues.teach(x, book), 0);
            Dues.due("passEvenings " + n, x.passEvenings(1), 6);
        }
        Dues.due("an unknown name", Dues.teach(x, "step p;"), 3);
        Dues.due("less", Dues.teach(x, "actor b; play q is [b b]; step q;"), 0);
        Dues.due("the same name again", Dues.teach(x, "actor p; play a is p; play b is a;"), 0);
        Dues.dueText(x, 1, "p");
    }
}
