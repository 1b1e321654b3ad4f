import java.util.Arrays;

/** The bounds of the tape, of its tokens and of its lines: section 1 up to the grammar. */
final class BoundsOfTape {
    private static final String LANGUAGE = "1. The language";
    private static final String PLAY = "play p is mask x(x); ";
    private static final String WHEN = PLAY + "step p when ";
    private static final String[] KEYWORDS = ("actor play is mask step give to renew when evening size masks steps"
            + " finished same not and or min max").split(" ");
    private static final String SYMBOLS = "()[];,+-*/<>=";
    private static final int BLANKS = 0x20202020;

    private BoundsOfTape() {
    }

    static void run() {
        // What a 513th call answers is free: on that side nothing can be due.
        Sentences.of("What it is", "An object is used for at most 512 calls after it has been made; what later calls"
                + " answer is free.", BoundsOfTape::callsOfAnObject);
        Sentences.of("Terms", "Positions of the tape are counted from 0, in bytes.", BoundsOfTape::positions);
        Sentences.of(LANGUAGE, "The tape is a row of at most 2000 bytes, at first empty, which feed and trim fill;"
                + " teach reads it as a playbook, and it is empty behind it.", BoundsOfTape::theTape);
        Sentences.of(LANGUAGE, "It is a row of tokens. Blanks (32) and line ends (10) can stand between tokens, at the"
                + " beginning and at the end,", BoundsOfTape::blanksBetweenTokens);
        Sentences.of(LANGUAGE, "and have to stand between two tokens that would otherwise be read as one.",
                BoundsOfTape::blanksThatHaveToStand);
        Sentences.of(LANGUAGE, "The longest possible token is always read.", BoundsOfTape::theLongestToken);
        Sentences.of(LANGUAGE, "A word: a letter a to z, followed by letters a to z and digits, at most 10 bytes.",
                BoundsOfTape::words);
        Sentences.of(LANGUAGE, "A number: 1 to 6 digits.", BoundsOfTape::numbers);
        Sentences.of(LANGUAGE, "Symbols: ( ) [ ] ; , + - * / < > = <= >=", BoundsOfTape::symbols);
        Sentences.of(LANGUAGE, "The keywords are: actor play is mask step give to renew when evening size masks steps"
                + " finished same not and or min max. All other words are names.", BoundsOfTape::keywords);
        Sentences.of(LANGUAGE, "Grammar. [ x ] outside of quotation marks means x or nothing, { x } x any number of"
                + " times, also none, and | separates alternatives; keywords and symbols of the language are in"
                + " quotation marks.", BoundsOfTape::marksOfTheGrammar);
        Sentences.of(LANGUAGE, "playbook = { line \";\" }", BoundsOfTape::thePlaybook);
        Sentences.of(LANGUAGE, "line = \"actor\" name | \"play\" name \"is\" part | \"step\" name [ \"when\" test ] |"
                + " \"give\" name \"to\" name \"when\" test | \"renew\" name \"when\" test", BoundsOfTape::theLines);
        Sentences.of(LANGUAGE, "part = name | \"mask\" name \"(\" part \")\" | \"[\" part part { part } \"]\"",
                BoundsOfTape::theParts);
        Sentences.of(LANGUAGE, "test = both { \"or\" both }", BoundsOfTape::theTests);
        Sentences.of(LANGUAGE, "both = single { \"and\" single }", BoundsOfTape::theBoths);
        Sentences.of(LANGUAGE, "single = \"not\" single | \"[\" test \"]\" | \"finished\" name | \"same\" name name |"
                + " sum ( \"<\" | \">\" | \"=\" | \"<=\" | \">=\" ) sum", BoundsOfTape::theSingles);
        Sentences.of(LANGUAGE, "sum = product { ( \"+\" | \"-\" ) product }", BoundsOfTape::theSums);
        Sentences.of(LANGUAGE, "product = value { ( \"*\" | \"/\" ) value }", BoundsOfTape::theProducts);
        Sentences.of(LANGUAGE, "value = number | \"evening\" | ( \"size\" | \"masks\" | \"steps\" ) name |"
                + " \"-\" value | \"(\" sum \")\" | ( \"min\" | \"max\" ) \"(\" sum \",\" sum \")\"",
                BoundsOfTape::theValues);
    }

    // ---- what it is, and terms

    private static void callsOfAnObject() {
        manyEvenings();
        manySteps();
        manyBooks();
        manyThrows();
    }

    private static void manyEvenings() {
        String book = "actor a; play p is a; " + "give p to p when 1=1; renew p when size p>=3; ".repeat(8);
        for (int last = 0; last < 3; last++) {
            MaskPlays x = new MaskPlays();
            Dues.due("teach", Dues.teach(x, book), 0);
            int passed = 0;
            for (int call = callsToTeach(book) + 1; call < 512; call++) {
                x.passEvenings(20);
                passed += 20;
            }
            if (last == 0) {
                Dues.due("evenings as call 512", x.evenings(), passed);
            } else if (last == 1) {
                Dues.due("notesCarriedOut as call 512", x.notesCarriedOut(), 16 * passed);
            } else {
                Dues.due("passEvenings as call 512", x.passEvenings(20), 320);
            }
        }
    }

    /** Dues.teach asks for the length of the tape, feeds, trims and teaches. */
    private static int callsToTeach(String book) {
        return 1 + (book.length() + 19) / 20 + 1 + 1;
    }

    private static void manySteps() {
        String book = "play p is [mask x([x x]) mask x([x x])];";
        MaskPlays x = new MaskPlays();
        Dues.due("teach", Dues.teach(x, book), 0);
        int steps = 0;
        for (int call = callsToTeach(book) + 1; call < 512; call++) {
            Dues.due("doStep as call " + call, x.doStep(0), 9);
            steps++;
        }
        Dues.due("stepsDone as call 512", x.stepsDone(0), steps);
    }

    private static void manyBooks() {
        MaskPlays x = new MaskPlays();
        for (int call = 1; call < 511; call += 2) {
            // "actor a;play p is a;"
            Dues.due("feed as call " + call, x.feed(0x6163746f, 0x7220613b, 0x706c6179, 0x20702069, 0x7320613b), 20);
            Dues.due("teach as call " + (call + 1), x.teach(), 0);
        }
        Dues.due("plays as call 511", x.plays(), 1);
        Dues.due("sizeOf as call 512", x.sizeOf(0), 1);
    }

    private static void manyThrows() {
        MaskPlays x = new MaskPlays();
        for (int call = 1; call < 512; call++) {
            Dues.dueThrow("sizeOf as call " + call, IndexOutOfBoundsException.class, () -> x.sizeOf(0));
        }
        Dues.dueThrow("trim as call 512", IllegalArgumentException.class, () -> x.trim(1));
    }

    private static void positions() {
        Dues.dueErrorAt(1, 0, ";");
        Dues.dueErrorAt(1, 1, " ;");
        Dues.dueErrorAt(1, 0, "\u00ff\u00ff");
        Dues.dueErrorAt(1, 2, "\n\n\u0080");
        Dues.dueErrorAt(1, 1998, " ".repeat(1998) + ";");
        Dues.dueErrorAt(1, 1999, " ".repeat(1999) + ";");
        Dues.dueErrorAt(3, 5, "step p;");
    }

    // ---- the tape

    private static void theTape() {
        MaskPlays x = new MaskPlays();
        Dues.due("tapeBytes at first", x.tapeBytes(), 0);
        Dues.due("teach at first", x.teach(), 0);
        Dues.feed(x, " ".repeat(1980));
        Dues.due("feed to 2000", x.feed(BLANKS, BLANKS, BLANKS, BLANKS, BLANKS), 2000);
        Dues.dueThrow("feed to 2020", IllegalStateException.class, () -> x.feed(BLANKS, BLANKS, BLANKS, BLANKS, BLANKS));
        Dues.due("tapeBytes", x.tapeBytes(), 2000);
        Dues.due("teach 2000 blanks", x.teach(), 0);
        Dues.due("tapeBytes behind teach", x.tapeBytes(), 0);
        theLastBytes();
        emptyBehindTeach();
    }

    private static void theLastBytes() {
        Dues.due("the last byte is read", Dues.told(" ".repeat(1992) + "actor a;").actors(), 1);
        Dues.dueErrorAt(1, 2000, " ".repeat(1993) + "actor a");
        Dues.dueErrorAt(1, 2000, " ".repeat(1995) + "actor");
        Dues.dueErrorAt(1, 2000, " ".repeat(1984) + "actor " + "a".repeat(10));
        Dues.dueErrorAt(1, 1989, " ".repeat(1983) + "actor " + "a".repeat(11));
        Dues.dueErrorAt(1, 0, "a".repeat(2000));
        Dues.dueErrorAt(1, 0, "1".repeat(2000));
        Dues.dueErrorAt(1, 2000, "step p when 1=" + " ".repeat(1985) + "1");
        // Bytes that were cut off are read by nobody, also if they would go on with the last token.
        dueCut("actor ab; ", 7);
        dueCut("actor a; ", 7);
        dueCut(WHEN + "1=12;", WHEN.length() + 3);
        dueCut(WHEN + "1<=2;", WHEN.length() + 2);
        dueCut("actor a;  !", 8);
        dueCut("actor a;x", 8);
        MaskPlays x = new MaskPlays();
        Dues.feed(x, "actor a;" + " ".repeat(1984) + "actor b;");
        Dues.due("trim", x.trim(1999), 1999);
        Dues.due("teach without the last byte", x.teach(), 1);
        Dues.due("errorAt", x.errorAt(), 1999);
    }

    /** Without an error if what is kept is a playbook, and else with one at its end. */
    private static void dueCut(String text, int kept) {
        boolean whole = text.charAt(kept - 1) == ';';
        MaskPlays x = new MaskPlays();
        Dues.feed(x, text);
        x.trim(kept);
        Dues.due("teach the first " + kept + " of " + text, x.teach(), whole ? 0 : 1);
        Dues.due("errorAt of the first " + kept + " of " + text, x.errorAt(), whole ? -1 : kept);
    }

    private static void emptyBehindTeach() {
        for (String book : new String[] {"actor a;", "actor a; actor"}) {
            MaskPlays x = new MaskPlays();
            Dues.teach(x, book);
            Dues.due("tapeBytes behind " + book, x.tapeBytes(), 0);
            Dues.dueThrow("trim behind " + book, IllegalArgumentException.class, () -> x.trim(1));
            Dues.due("feed behind " + book, x.feed(BLANKS, BLANKS, BLANKS, BLANKS, BLANKS), 20);
            Dues.due("teach blanks behind " + book, x.teach(), 0);
            Dues.due("actors behind it", x.actors(), 0);
        }
    }

    // ---- tokens

    private static void blanksBetweenTokens() {
        for (String blank : new String[] {" ", "\n", "  ", "\n\n", " \n", "\n \n "}) {
            String book = String.join(blank, "", "actor", "a", ";", "play", "p", "is", "mask", "x", "(", "x", ")", ";",
                    "step", "p", "when", "1", "<=", "-", "2", ";", "");
            Dues.due("actors and plays", Dues.told(book).actors() + Dues.told(book).plays(), 2);
        }
        for (int sign = 0; sign < 256; sign++) {
            if (sign != 32 && sign != 10) {
                Dues.dueErrorAt(1, 0, (char) sign + " actor a;");
                Dues.dueErrorAt(1, 5, "actor" + (isOfWords(sign) ? "." : (char) sign) + "a;");
                Dues.dueErrorAt(1, 8, "actor a;" + (char) sign + "actor b;");
                Dues.dueErrorAt(1, 9, "actor a; " + (char) sign);
            }
        }
        // Not within a token.
        Dues.dueError(1, "^act or a;");
        Dues.dueError(1, "actor a ^b;");
        Dues.dueError(1, WHEN + "1 ^2=12;");
        Dues.dueError(1, WHEN + "1< ^=2;");
        Dues.dueError(1, WHEN + "1>\n^=2;");
    }

    private static boolean isOfWords(int sign) {
        return sign >= 'a' && sign <= 'z' || sign >= '0' && sign <= '9';
    }

    private static void blanksThatHaveToStand() {
        Dues.told("actor a;");
        Dues.dueError(1, "^actora;");
        Dues.told("actor a1;");
        Dues.dueError(1, "^actor1a;");
        Dues.told("play p is mask x(x);");
        Dues.dueError(1, "play pis ^mask x(x);");
        Dues.dueError(1, "play p ^ismask x(x);");
        Dues.dueError(1, "play p is maskx^(x);");
        Dues.told("actor a; play p is [a a];");
        Dues.dueError(1, "actor a; play p is [aa^];");
        Dues.told(WHEN + "1=1 and 1=1;");
        Dues.dueError(1, WHEN + "1=1 ^and1=1;");
        // Two tokens that could not be read as one need none.
        Dues.told("actor a;play p is[a[a a]];step p when 1=1and(2)=2or[size p<=-1]and not-1>=1;");
        Dues.told(WHEN + "1=1and 1=1;");
        Dues.told(WHEN + "1<-1 and 1>-1 and 1=-1 and--1=1;");
    }

    private static void theLongestToken() {
        Dues.dueHolds("1<=1");
        Dues.dueHolds("1>=1");
        Dues.dueError(1, WHEN + "1<=^=1;");
        Dues.dueError(1, WHEN + "1>=^=1;");
        Dues.dueError(1, WHEN + "1=^=1;");
        Dues.dueError(1, WHEN + "1=^<1;");
        Dues.dueError(1, WHEN + "1=^>1;");
        Dues.dueError(1, WHEN + "1<^>1;");
        Dues.dueError(1, WHEN + "1<^<1;");
        Dues.told("actor masks0; actor step1; actor isa; actor orx; actor minmax;");
        Dues.dueHolds("12=12");
        Dues.dueNot("12=1");
        Dues.dueError(1, WHEN + "1^a=1;");
        // A word of 11 bytes is one that is too long, not one of 10 and another one.
        Dues.dueError(1, "actor ^abcdefghijk;");
        Dues.dueError(1, WHEN + "^1234567=1;");
    }

    private static void words() {
        for (int sign = 0; sign < 256; sign++) {
            char as = (char) sign;
            if (sign >= 'a' && sign <= 'z') {
                dueActor("" + as);
            } else if (sign != 32 && sign != 10) {
                Dues.dueErrorAt(1, 6, "actor " + as + "b;");
            }
            if (isOfWords(sign)) {
                dueActor("b" + as);
                dueActor("b12345678" + as);
            } else if (sign != 32 && sign != 10 && sign != ';') {
                Dues.dueErrorAt(1, 7, "actor b" + as + ";");
            }
        }
        dueActor("abcdefghij");
        dueActor("z999999999");
        Dues.dueErrorAt(1, 6, "actor abcdefghijk;");
        Dues.dueErrorAt(1, 6, "actor z9999999999;");
        Dues.dueErrorAt(1, 0, "actoractora;");
        // All ten bytes tell a name from another one, and so does its length.
        Dues.due("actors", Dues.told("actor abcdefghij; actor abcdefghik; actor bbcdefghij; actor abcdefghi;"
                + " actor a; actor aa; actor a0; actor a1;").actors(), 8);
        Dues.dueError(2, "actor abcdefghij; actor ^abcdefghij;");
    }

    private static void dueActor(String name) {
        MaskPlays x = Dues.told("actor " + name + "; play qqq is " + name + ";");
        Dues.dueText(x, 0, name);
    }

    private static void numbers() {
        for (int digit = 0; digit <= 9; digit++) {
            Dues.dueHolds(digit + "-" + digit + "=0");
            Dues.dueHolds("10+" + digit + "=1" + digit);
        }
        Dues.dueError(1, WHEN + "^=1;");
        Dues.dueHolds("100000=99999+1");
        Dues.dueHolds("999999+1=1000*1000");
        Dues.dueHolds("000000=0");
        Dues.dueHolds("000019=19");
        Dues.dueError(1, WHEN + "^1000000=1;");
        Dues.dueError(1, WHEN + "^0000000=0;");
        Dues.dueError(1, WHEN + "1=^9999999;");
        Dues.dueError(1, WHEN + "1=^" + "9".repeat(40) + ";");
    }

    private static void symbols() {
        Dues.told("actor a; play p is [a mask x(x)]; step p when [1+1-1*1/1<1 or 1>1 or 1=1 or 1<=1 or 1>=1]"
                + " and min(1,(1))=1;");
        for (int sign = 0; sign < 256; sign++) {
            char as = (char) sign;
            // Behind the first value of a test: with any other sign nothing can go on there.
            if (!isOfWords(sign) && sign != 32 && sign != 10 && "+-*/<>=".indexOf(as) < 0) {
                Dues.dueErrorAt(1, WHEN.length() + 1, WHEN + "1" + as + "1=1;");
            }
            if (SYMBOLS.indexOf(as) < 0 && sign != 32 && sign != 10) {
                Dues.dueErrorAt(1, 0, as + ";");
            }
        }
    }

    private static void keywords() {
        for (String keyword : KEYWORDS) {
            Dues.dueErrorAt(1, 6, "actor " + keyword + ";");
            Dues.dueErrorAt(1, 5, "play " + keyword + " is mask x(x);");
            Dues.dueErrorAt(1, 15, "play p is mask " + keyword + "(a);");
            Dues.dueErrorAt(1, 5, "step " + keyword + ";");
            dueActor(keyword + "0");
            dueActor(keyword + "x");
            dueActor("x" + keyword);
            String shorter = keyword.substring(0, keyword.length() - 1);
            if (Arrays.asList(KEYWORDS).indexOf(shorter) < 0) {
                dueActor(shorter);
            }
        }
    }

    // ---- lines

    private static void marksOfTheGrammar() {
        Dues.told("");
        Dues.told("actor a;");
        Dues.told("actor a; actor b;");
        Dues.told(PLAY + "step p;");
        Dues.told(PLAY + "step p when 1=1;");
        Dues.dueError(1, PLAY + "step p when 1=1 ^when 1=1;");
        String[] more = {"a", "a a", "a" + " a".repeat(70)};
        for (String parts : more) {
            Dues.told("actor a; play p is [a " + parts + "];");
        }
        String[][] rows = {{"1=1", " or 1=1"}, {"1=1", " and 1=1"}, {"1", "+1"}, {"1", "-1"}, {"1", "*1"}, {"1", "/1"}};
        for (String[] row : rows) {
            for (int times : new int[] {0, 1, 2, 30}) {
                String test = row[0] + row[1].repeat(times);
                Dues.told(WHEN + test + (row[0].equals("1") ? ">0;" : ";"));
            }
        }
    }

    private static void thePlaybook() {
        Dues.dueError(1, "actor a^");
        Dues.dueError(1, "actor a ^actor b;");
        Dues.dueError(1, "^;");
        Dues.dueError(1, "actor a;^;");
        Dues.told("actor a;actor b;");
    }

    private static void theLines() {
        dueEachToken("actor a ;");
        dueEachToken("play p is mask x ( x ) ;");
        dueEachToken("give p to p when 1 = 1 ;");
        dueEachToken("renew p when 1 = 1 ;");
        dueEachToken("step p when 1 = 1 ;");
        dueEachToken("step p ;");
        Dues.dueError(1, PLAY + "give p to p^;");
        Dues.dueError(1, PLAY + "renew p^;");
        for (String keyword : KEYWORDS) {
            boolean begins = Arrays.asList("actor", "play", "step", "give", "renew").contains(keyword);
            Dues.dueErrorAt(1, begins ? keyword.length() : 0, keyword);
        }
        Dues.dueError(1, "^x p;");
        Dues.dueError(1, "^1;");
    }

    /**
     * No token of the line (with a blank behind each but the last one) can stay away: cut ahead of it
     * the end is the error, and where another sign stands in its place, this one is.
     */
    private static void dueEachToken(String line) {
        String book = "play q is mask x(x); ";
        Dues.due("error 1 of " + line, Dues.teach(new MaskPlays(), book + line) == 1, false);
        int from = 0;
        for (String token : line.split(" ")) {
            if (from > 0) {
                Dues.dueErrorAt(1, book.length() + from, book + line.substring(0, from));
            }
            Dues.dueErrorAt(1, book.length() + from, book + line.substring(0, from) + "? " + line.substring(from));
            Dues.dueErrorAt(1, book.length() + from, book + line.substring(0, from) + "?"
                    + line.substring(from + token.length()));
            from += token.length() + 1;
        }
    }

    private static void theParts() {
        dueEachToken("play p is q ;");
        dueEachToken("play p is mask x ( mask y ( x ) ) ;");
        dueEachToken("play p is [ q q ] ;");
        dueEachToken("play p is [ q q q ] ;");
        Dues.dueError(1, "actor a; play p is [^];");
        Dues.dueError(1, "actor a; play p is [a^];");
        Dues.told("actor a; play p is [a a];");
        Dues.told("actor a; play p is [a a a];");
        Dues.dueError(1, "actor a; play p is mask x(^);");
        Dues.told("actor a; play p is mask x(a);");
        Dues.dueError(1, "actor a; play p is mask x(a ^a);");
        Dues.dueError(1, "actor a; play p is a ^a;");
        Dues.dueError(1, "actor a; play p is ^;");
        Dues.dueError(1, "actor a; play p is [a a^;");
        Dues.dueError(1, "actor a; play p is [a a]^];");
        Dues.dueError(1, "actor a; play p is mask x(a)^);");
        Dues.dueError(1, "actor a; play p is [a a^);");
        Dues.dueError(1, "actor a; play p is ^(a);");
        Dues.dueError(1, "actor a; play p is ^1;");
    }

    private static void theTests() {
        dueEachToken("step q when 1 = 1 or 2 < 2 or 3 > 3 ;");
        Dues.dueError(1, WHEN + "^;");
        Dues.dueError(1, WHEN + "^or 1=1;");
        Dues.dueError(1, WHEN + "1=1 or^;");
        Dues.dueError(1, WHEN + "1=1 or ^or 1=1;");
        Dues.dueError(1, WHEN + "1 ^or 1=1;");
    }

    private static void theBoths() {
        dueEachToken("step q when 1 = 1 and 2 < 2 and 3 > 3 ;");
        dueEachToken("step q when 1 = 1 and 2 < 2 or 3 > 3 and 4 = 4 ;");
        Dues.dueError(1, WHEN + "^and 1=1;");
        Dues.dueError(1, WHEN + "1=1 and^;");
        Dues.dueError(1, WHEN + "1=1 and ^or 1=1;");
        Dues.dueError(1, WHEN + "1=1 or ^and 1=1;");
    }

    private static void theSingles() {
        dueEachToken("step q when not [ not finished q ] ;");
        dueEachToken("step q when finished q or same q q and same q q ;");
        dueEachToken("step q when [ 1 <= 1 or [ 2 >= 2 ] ] ;");
        Dues.dueError(1, WHEN + "1=1 ^not 1=1;");
        Dues.dueError(1, WHEN + "1=1 ^1=1;");
        Dues.dueError(1, WHEN + "1=1^=1;");
        Dues.dueError(1, WHEN + "1^;");
        Dues.dueError(1, WHEN + "[^];");
        Dues.dueError(1, WHEN + "[1^]=1;");
        Dues.dueError(1, WHEN + "(1^=1);");
        Dues.dueError(1, WHEN + "[1=1]^=1;");
        Dues.dueError(1, WHEN + "[1=1]^];");
        Dues.dueError(1, WHEN + "same p^;");
        Dues.dueError(1, WHEN + "same p p ^p;");
        Dues.dueError(1, WHEN + "finished p ^p;");
        Dues.dueError(1, WHEN + "finished ^[1=1];");
        comparisons();
    }

    /** Below, at and above what is compared with. */
    private static void comparisons() {
        String[] orders = {"<", ">", "=", "<=", ">="};
        boolean[][] hold = {{true, false, false}, {false, false, true}, {false, true, false}, {true, true, false},
            {false, true, true}};
        for (int n = 0; n < orders.length; n++) {
            for (int left = 0; left < 3; left++) {
                String test = (left + 6) + orders[n] + "7";
                Dues.due(test, Dues.holds("", test), hold[n][left]);
                String below0 = "-" + (8 - left) + orders[n] + "-7";
                Dues.due(below0, Dues.holds("", below0), hold[n][left]);
            }
        }
    }

    private static void theSums() {
        dueEachToken("step q when 1 + 2 - 3 = 1 - 2 + 3 ;");
        Dues.dueError(1, WHEN + "1=1+^;");
        Dues.dueError(1, WHEN + "1=1-^;");
        Dues.dueError(1, WHEN + "1=^+1;");
        Dues.dueError(1, WHEN + "1=1+^+1;");
    }

    private static void theProducts() {
        dueEachToken("step q when 1 * 2 / 3 + 4 = 1 - 2 / 3 * 4 ;");
        Dues.dueError(1, WHEN + "1=1*^;");
        Dues.dueError(1, WHEN + "1=1/^;");
        Dues.dueError(1, WHEN + "1=^*1;");
        Dues.dueError(1, WHEN + "1=1*^/1;");
        Dues.dueError(1, WHEN + "1=1*^+1;");
    }

    private static void theValues() {
        dueEachToken("step q when 1 + evening = - ( evening ) ;");
        dueEachToken("step q when size q + masks q = steps q ;");
        dueEachToken("step q when min ( 1 , 2 ) = max ( 1 , - - 2 ) ;");
        Dues.told(WHEN + "1=1+-1-(-1)*-1/--1;");
        Dues.dueError(1, WHEN + "1=(^);");
        Dues.dueError(1, WHEN + "1=1^);");
        Dues.dueError(1, WHEN + "1=(1^;");
        Dues.dueError(1, WHEN + "1=min(1^);");
        Dues.dueError(1, WHEN + "1=max(1,1^,1);");
        Dues.dueError(1, WHEN + "1=min(^,1);");
        Dues.dueError(1, WHEN + "1=min^,1;");
        Dues.dueError(1, WHEN + "1=(1^,1);");
        Dues.dueError(1, WHEN + "1=^p;");
        Dues.dueError(1, WHEN + "1=size^;");
        Dues.dueError(1, WHEN + "1=size ^(p);");
        Dues.dueError(1, WHEN + "1=evening ^p;");
        Dues.dueError(1, WHEN + "1=^not 1;");
        Dues.dueError(1, WHEN + "1=^[1];");
    }
}
