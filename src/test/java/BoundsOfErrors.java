/** The bounds of the depth and of the errors 1 to 5: section 1 behind the grammar. */
final class BoundsOfErrors {
    private static final String LANGUAGE = "1. The language";
    private static final String ACTOR = "actor a; ";
    private static final String PLAY = "play p is mask x(x); ";
    private static final String WHEN = PLAY + "step p when ";
    /** What opens something deeper, the token in it that makes it so, and what closes it. */
    private static final String[][] OF_PARTS = {{"mask x(", "(", ")"}, {"[a ", "[", "]"}};
    private static final String[][] OF_TESTS = {{"not ", "not", ""}, {"[", "[", "]"}, {"[1=1 or ", "[", "]"}};
    private static final String[][] OF_SUMS = {{"(", "(", ")"}, {"-", "-", ""}, {"min(", "(", ",1)"},
        {"max(1,", "(", ")"}, {"(1+", "(", ")"}, {"min(2*3,", "(", ")"}};

    private BoundsOfErrors() {
    }

    static void run() {
        Sentences.of(LANGUAGE, "Depth. It is 0 at the beginning, and 1 greater between a ( and its ), a [ and its ],"
                + " behind a - in front (of a value) for what it turns, and behind a not for what it turns.",
                BoundsOfErrors::whereItIsDeeper);
        Sentences.of(LANGUAGE, "It may be at most 8.", BoundsOfErrors::atMost8);
        Sentences.of(LANGUAGE, "Errors. Error 1: the first token with which the tokens so far are not the beginning of"
                + " a playbook.", BoundsOfErrors::error1);
        Sentences.of(LANGUAGE, "This includes a byte with which no token begins, a word or number that is too long, the"
                + " end of the tape (at its length), the (, [, - or not behind which the depth would be 9, and the token"
                + " that would be the 401st (the end of the tape not counted).", BoundsOfErrors::error1Includes);
        Sentences.of(LANGUAGE, "The position is that of its first byte.", BoundsOfErrors::theFirstByte);
        Sentences.of(LANGUAGE, "Only if there is no error 1, keywords, names and numbers are looked at from left to"
                + " right, and the first error is told, at its token; of errors at one token the one with the smallest"
                + " number.", BoundsOfErrors::onlyIfThereIsNoError1);
        Sentences.of(LANGUAGE, "Error 2: the name behind actor, play (at the beginning of a line) or mask is that of an"
                + " actor or a play told ahead.", BoundsOfErrors::error2);
        Sentences.of(LANGUAGE, "Error 3: another name is none of what it has to be: in a part, the name of a mask around"
                + " it, or of an actor or a play told ahead; elsewhere, that of a play told ahead.",
                BoundsOfErrors::error3);
        Sentences.of(LANGUAGE, "Error 4: the name of the 9th actor or of the 13th play, or the step, give or renew of the"
                + " 17th note (of all three together).", BoundsOfErrors::error4);
        Sentences.of(LANGUAGE, "Error 5: the ; behind a play that has more than 150 parts.", BoundsOfErrors::error5);
        Sentences.of(LANGUAGE, "Actors, plays and notes (lines with step, give or renew) are numbered from 0 in the order"
                + " in which they are told.", BoundsOfErrors::numbersOfTold);
        Sentences.of(LANGUAGE, "A play is told with its line; so its name is not known in its own part.",
                BoundsOfErrors::notKnownInItsOwnPart);
    }

    // ---- depth

    private static void whereItIsDeeper() {
        for (String[] outer : OF_PARTS) {
            for (String[] inner : OF_PARTS) {
                dueOneDeeper(ACTOR + "play p is ", outer, inner, "a", ";");
            }
        }
        for (String[] outer : OF_TESTS) {
            for (String[] inner : OF_TESTS) {
                dueOneDeeper(WHEN, outer, inner, "1=1", ";");
            }
            for (String[] inner : OF_SUMS) {
                String[] other = {"1=" + inner[0], inner[1], inner[2]};
                dueOneDeeper(WHEN, outer, other, "1", ";");
                dueOneDeeper(WHEN, outer, inner, "1", "=1;");
            }
        }
        for (String[] outer : OF_SUMS) {
            for (String[] inner : OF_SUMS) {
                dueOneDeeper(WHEN + "1=", outer, inner, "1", ";");
            }
        }
        noDeeperBehindIts();
        onlyForWhatItTurns();
    }

    /** Seven of the outer ones and an inner one are 8 deep; behind eight outer ones it is too much. */
    private static void dueOneDeeper(String before, String[] outer, String[] inner, String middle, String behind) {
        // What closes an inner test is put ahead of what closes the outer ones, also if it ends a sum.
        String end = behind.startsWith("=") ? behind.substring(0, 2) : "";
        String last = behind.substring(end.length());
        Dues.told(before + outer[0].repeat(7) + inner[0] + middle + inner[2] + end + outer[2].repeat(7) + last);
        String ahead = before + outer[0].repeat(8);
        Dues.dueErrorAt(1, ahead.length() + inner[0].lastIndexOf(inner[1]),
                ahead + inner[0] + middle + inner[2] + end + outer[2].repeat(8) + last);
    }

    private static void noDeeperBehindIts() {
        String eight = "(".repeat(8) + "1" + ")".repeat(8);
        Dues.told(WHEN + eight + "+" + eight + "=" + eight + " and " + eight + "=" + eight + ";");
        Dues.dueErrorAt(1, WHEN.length() + 18 + 8, WHEN + eight + "+(" + eight + ")=1;");
        String squares = "[".repeat(8) + "1=1" + "]".repeat(8);
        Dues.told(WHEN + squares + " or " + squares + " and " + squares + ";");
        Dues.dueErrorAt(1, WHEN.length() + 23 + 8, WHEN + squares + " or [" + squares + "];");
        String seven = "[a ".repeat(7) + "a" + "]".repeat(7);
        Dues.told(ACTOR + "play p is [" + seven + " " + seven + " " + seven + "];");
        Dues.dueErrorAt(1, ACTOR.length() + 11 + 30 + 21, ACTOR + "play p is [" + seven + " [a " + seven + "]];");
        String masks = "mask x(".repeat(7) + "x" + ")".repeat(7);
        Dues.told("play p is [" + masks + " " + masks + "];");
        Dues.dueErrorAt(1, 11 + 58 + 55, "play p is [" + masks + " mask x(" + masks + ")];");
        // In the next line it is 0 again.
        Dues.told(ACTOR + "play p is [" + seven + " a]; play q is [" + seven + " a]; step p when " + squares
                + "; step q when " + eight + "=1;");
        String values = "(".repeat(7) + "1" + ")".repeat(7);
        Dues.told(WHEN + "min(" + values + "," + values + ")=1;");
        Dues.dueError(1, WHEN + "min(1,(((((((^(1)))))))))=1;");
    }

    private static void onlyForWhatItTurns() {
        String eight = "(".repeat(8) + "1" + ")".repeat(8);
        String seven = "(".repeat(7) + "1" + ")".repeat(7);
        for (String sign : new String[] {"+", "-", "*", "/", "<", "="}) {
            String end = sign.equals("<") || sign.equals("=") ? ";" : "=1;";
            Dues.told(WHEN + "-1" + sign + eight + end);
            Dues.told(WHEN + "-" + seven + sign + eight + end);
        }
        Dues.dueErrorAt(1, WHEN.length() + 8, WHEN + "-" + eight + "=1;");
        // A - between two values is none in front of one.
        Dues.told(WHEN + "1-" + eight + "=1;");
        Dues.told(WHEN + "1" + "-1".repeat(20) + "=1;");
        Dues.told(WHEN + "1-" + "-".repeat(8) + "1=1;");
        Dues.dueErrorAt(1, WHEN.length() + 2 + 8, WHEN + "1-" + "-".repeat(9) + "1=1;");
        Dues.told(WHEN + "not 1=1 and " + eight + "=1;");
        Dues.told(WHEN + "not 1=1 or not " + seven + "=" + seven + ";");
        // A not turns all of a comparison, both its sides.
        Dues.dueErrorAt(1, WHEN.length() + 4 + 7, WHEN + "not " + eight + "=1;");
        Dues.dueErrorAt(1, WHEN.length() + 6 + 7, WHEN + "not 1=" + eight + ";");
        Dues.dueErrorAt(1, WHEN.length() + 4 + 7, WHEN + "not " + "[".repeat(8) + "1=1" + "]".repeat(8) + ";");
    }

    private static void atMost8() {
        for (String[] kind : OF_PARTS) {
            dueAtMost8(ACTOR + "play p is ", kind, "a", ";");
        }
        for (String[] kind : OF_TESTS) {
            dueAtMost8(WHEN, kind, "1=1", ";");
        }
        for (String[] kind : OF_SUMS) {
            dueAtMost8(WHEN, kind, "1", "=1;");
            dueAtMost8(WHEN + "1=", kind, "1", ";");
        }
        // Parts of plays told ahead may lie deeper.
        Dues.due("sizeOf", Dues.told(ACTOR + "play p is " + "mask x(".repeat(8) + "a" + ")".repeat(8)
                + "; play q is " + "mask x(".repeat(8) + "p" + ")".repeat(8) + ";").sizeOf(1), 17);
    }

    private static void dueAtMost8(String before, String[] kind, String middle, String behind) {
        Dues.told(before + kind[0].repeat(8) + middle + kind[2].repeat(8) + behind);
        String ahead = before + kind[0].repeat(8);
        Dues.dueErrorAt(1, ahead.length() + kind[0].lastIndexOf(kind[1]),
                ahead + kind[0] + middle + kind[2].repeat(9) + behind);
    }

    // ---- error 1

    private static void error1() {
        Dues.told("actor a; play p is a;");
        Dues.dueError(1, "actor a; play p is a ^actor b;");
        Dues.dueError(1, "actor a; play ^1 p a;");
        Dues.dueError(1, "actor a; play p ^; ! 1234567");
        Dues.dueError(1, "actor ^actor actor");
        Dues.dueError(1, WHEN + "1=1 ^then 2;");
        // Of several the first one.
        Dues.dueError(1, "actor ^1; actor 2;");
        Dues.dueError(1, "actor a; ^!; actor abcdefghijk;");
    }

    private static void error1Includes() {
        bytesOfNoToken();
        tooLong();
        theEndOfTheTape();
        depthOf9();
        theToken401();
        whatFollowsToken400();
    }

    private static void bytesOfNoToken() {
        Dues.dueError(1, "actor a; ^!");
        Dues.dueError(1, "actor a^!;");
        Dues.dueError(1, "actor a^\t;");
        Dues.dueError(1, "actor ^A;");
        Dues.dueError(1, WHEN + "1^\u00b1 1;");
        Dues.dueErrorAt(1, 8, "actor a;\0\0\0\0");
    }

    private static void tooLong() {
        Dues.told("actor abcdefghij;");
        Dues.dueError(1, "actor ^abcdefghijk;");
        Dues.dueError(1, "actor a; ^renewrenewr;");
        Dues.told(WHEN + "123456=1;");
        Dues.dueError(1, WHEN + "^1234567=1;");
        Dues.dueError(1, WHEN + "size p=^0000000;");
    }

    private static void theEndOfTheTape() {
        Dues.dueErrorAt(1, 5, "actor");
        Dues.dueErrorAt(1, 7, "actor a");
        Dues.dueErrorAt(1, 9, "actor a  ");
        Dues.dueErrorAt(1, 9, "actor a \n");
        Dues.told("actor a;");
        Dues.told("actor a; ");
        Dues.told("");
        Dues.told(" ");
        MaskPlays x = new MaskPlays();
        Dues.feed(x, "actor a; actor b;");
        x.trim(15);
        Dues.due("teach a trimmed tape", x.teach(), 1);
        Dues.due("errorAt", x.errorAt(), 15);
    }

    private static void depthOf9() {
        Dues.told(ACTOR + "play p is [a [a [a [a [a [a [a [a a]]]]]]]];");
        Dues.dueError(1, ACTOR + "play p is [a [a [a [a [a [a [a [a ^[a a]]]]]]]]];");
        Dues.told(ACTOR + "play p is [a [a [a [a [a [a [a mask x(a)]]]]]]];");
        Dues.dueError(1, ACTOR + "play p is [a [a [a [a [a [a [a [a mask x^(a)]]]]]]]];");
        Dues.told(WHEN + "not not not not not not not not 1=1;");
        Dues.dueError(1, WHEN + "not not not not not not not not ^not 1=1;");
        Dues.told(WHEN + "not not not not not not not [1=1];");
        Dues.dueError(1, WHEN + "not not not not not not not not ^[1=1];");
        Dues.told(WHEN + "not not not not not not not -1=1;");
        Dues.dueError(1, WHEN + "not not not not not not not not ^-1=1;");
        Dues.told(WHEN + "not not not not not not not (1)=1;");
        Dues.dueError(1, WHEN + "not not not not not not not not ^(1)=1;");
        Dues.told(WHEN + "not not not not not not not max(1,1)=1;");
        Dues.dueError(1, WHEN + "not not not not not not not not max^(1,1)=1;");
        // Also if the tape ends there.
        Dues.dueError(1, WHEN + "not not not not not not not not 1=1+min^(");
        Dues.dueError(1, WHEN + "not not not not not not not not 1=1+min^");
    }

    /** 16 tokens, and two more with each +1: 400 in all with 192 of them. */
    private static String tokens400() {
        return WHEN + "1" + "+1".repeat(192) + "=1;";
    }

    private static void theToken401() {
        String most = tokens400();
        Dues.told(most);
        Dues.told(most + " \n ");
        Dues.dueErrorAt(1, most.length(), WHEN + "-1" + "+1".repeat(192) + "=1;");
        String[] lines = {"actor b;", "play q is p;", "step p;", "give p to p when 1=1;", "renew p when 1=1;"};
        for (String line : lines) {
            Dues.dueErrorAt(1, most.length(), most + line);
            Dues.dueErrorAt(1, most.length() + 2, most + " \n" + line);
        }
        // Each kind of token counts once, however many bytes it has.
        Dues.told(most.replace("1=1", "123456<=999999"));
        String mixed = most.replace("+1+1", "--size p");
        Dues.told(mixed);
        Dues.dueErrorAt(1, mixed.length() + 1, mixed + " actor b;");
        Dues.dueErrorAt(1, 8 * 133 + 6, "actor a;".repeat(134));
        // 133 lines are 399 tokens: of these only the second name is wrong.
        Dues.dueErrorAt(2, 8 + 6, "actor a;".repeat(133));
        String names = "play q is [" + "p ".repeat(400 - 9 - 6) + "];";
        Dues.dueErrorAt(5, PLAY.length() + names.length() - 1, PLAY + names);
        Dues.dueErrorAt(1, PLAY.length() + names.length() + 1, PLAY + names.replace("[", "[p "));
    }

    private static void whatFollowsToken400() {
        String most = tokens400();
        for (String wrong : new String[] {";", "!", "1234567", "abcdefghijk", "p", "1", "("}) {
            Dues.dueErrorAt(1, most.length(), most + wrong);
        }
        // The end of the tape behind the 400th is not the 401st.
        String open = WHEN + "1" + "+1".repeat(192) + "=1 ";
        Dues.dueErrorAt(1, open.length(), open);
        Dues.dueErrorAt(1, open.length() + 2, open + "+ ");
        Dues.dueErrorAt(1, open.length() + 1, open + "+1");
        Dues.dueErrorAt(1, open.length() + 2, open + "+ ;");
        // A wrong token ahead of it is the first one.
        Dues.dueErrorAt(1, open.length(), open + "p;;;;");
        Dues.dueErrorAt(1, open.length() - 2, open.substring(0, open.length() - 2) + "* 1 1 1");
        Dues.dueErrorAt(1, 0, "!" + most + most);
    }

    private static void theFirstByte() {
        Dues.dueError(1, "actor   ^when  ;");
        Dues.dueError(1, "actor \n ^abcdefghijk ;");
        Dues.dueError(1, WHEN + "1 \n ^1234567 ;");
        Dues.dueError(1, WHEN + "1=1 ^<= 1;");
        Dues.dueError(1, "actor   a   ^b;");
    }

    // ---- errors 2 to 5

    private static void onlyIfThereIsNoError1() {
        Dues.dueError(2, "actor a; actor ^a; actor b;");
        Dues.dueError(1, "actor a; actor a; actor b^");
        Dues.dueError(3, "step ^p; actor a;");
        Dues.dueError(1, "step p; actor a;^;");
        String actors = lines("actor a", ";", 8);
        String plays = ACTOR + lines("play p", " is a;", 12);
        String notes = PLAY + lines("step p when evening=", ";", 16);
        Dues.dueError(1, actors + "actor b; ^!");
        Dues.dueError(1, notes + "step p^");
        String large = ACTOR + "play l is [" + "a ".repeat(76) + "]";
        Dues.dueError(5, large + "^; actor b;");
        Dues.dueError(1, large + "; actor ^;");
        fromLeftToRight(actors, notes, large);
        theSmallestNumber(actors, plays, notes);
    }

    /** A row of lines that are told apart by a number. */
    private static String lines(String start, String end, int count) {
        StringBuilder lines = new StringBuilder();
        for (int n = 0; n < count; n++) {
            lines.append(start).append(n).append(end).append(' ');
        }
        return lines.toString();
    }

    private static void fromLeftToRight(String actors, String notes, String large) {
        Dues.dueError(2, "actor a; actor ^a; step q;");
        Dues.dueError(3, "actor a; step ^q; actor a;");
        Dues.dueError(3, ACTOR + "play p is [^b mask a(a)];");
        Dues.dueError(2, ACTOR + "play p is [mask ^a(a) b];");
        Dues.dueError(4, actors + "actor ^b; actor a0;");
        Dues.dueError(2, actors + "play ^a0 is c; actor b;");
        Dues.dueError(3, notes + "play q is ^r; step p;");
        Dues.dueError(4, notes + "^step q; actor p;");
        Dues.dueError(5, large + "^; actor a;");
        Dues.dueError(2, "actor a; actor ^a; " + large.substring(ACTOR.length()) + ";");
        Dues.dueError(3, large.replace("]", "^b]") + ";");
        Dues.dueError(2, large.replace("]", "mask ^a(b)]") + ";");
    }

    private static void theSmallestNumber(String actors, String plays, String notes) {
        Dues.dueError(2, actors + "actor ^a0;");
        Dues.dueError(2, actors + "actor ^a7;");
        Dues.dueError(4, actors + "actor ^a8;");
        Dues.dueError(2, plays + "play ^p0 is a;");
        Dues.dueError(2, plays + "play ^a is a;");
        Dues.dueError(2, plays + "play ^p11 is a;");
        Dues.dueError(4, plays + "play ^p12 is a;");
        Dues.dueError(4, notes + "^renew q when 1=1;");
    }

    private static void error2() {
        Dues.dueError(2, "actor a; actor ^a;");
        Dues.dueError(2, PLAY + "actor ^p;");
        Dues.dueError(2, "actor a; play ^a is a;");
        Dues.dueError(2, PLAY + "play ^p is p;");
        Dues.dueError(2, "actor a; play p is mask ^a(a);");
        Dues.dueError(2, PLAY + "play q is mask ^p(p);");
        Dues.dueError(2, "actor a; actor b; play p is [a mask x(mask ^b(x))];");
        Dues.dueError(2, PLAY + "play q is mask q(q); play r is mask x(mask ^q(x));");
        // Told in the same line or behind it is not told ahead; other names of masks are free.
        Dues.told("play p is mask p(p);");
        Dues.told("play p is mask q(q); play q is mask r(r); actor r;");
        Dues.told("play p is mask x(mask x(x)); play x is p; play r is mask y([x y]);");
        Dues.dueError(2, "play p is mask x(x); play x is p; play q is mask ^x(x);");
        Dues.told("actor a; actor b; actor aa; actor a0; play p is mask ab(ab);");
    }

    private static void error3() {
        Dues.told("actor a; play p is mask x([x mask y([x y a])]); play q is [a p];");
        Dues.dueError(3, "play p is ^a; actor a;");
        Dues.dueError(3, "play p is ^q; play q is mask x(x);");
        Dues.dueError(3, "play p is [mask x(x) ^x];");
        Dues.dueError(3, "play p is mask x([mask y(y) ^y]);");
        Dues.dueError(3, "play p is [[mask x(mask y(x)) mask y(y)] ^y];");
        Dues.dueError(3, "play p is mask x([mask x(x) x]); play q is ^x;");
        Dues.told("play p is mask x([mask x(x) x]);");
        String eight = "play p is mask m1(mask m2(mask m3(mask m4(mask m5(mask m6(mask m7(mask m8(";
        for (int n = 1; n <= 8; n++) {
            Dues.told(eight + "m" + n + "))))))));");
        }
        Dues.dueError(3, eight + "^m0))))))));");
        Dues.dueError(3, eight + "^m9))))))));");
        // The masks of a tape with an error are none of the next one.
        MaskPlays x = new MaskPlays();
        Dues.due("teach", Dues.teach(x, "play p is mask x(mask y([x z]));"), 3);
        Dues.due("teach", Dues.teach(x, "play p is mask z([z x]);"), 3);
        Dues.due("errorAt", x.errorAt(), 20);
        Dues.due("teach", Dues.teach(x, "play p is mask z(y);"), 3);
        Dues.dueError(3, "actor a; play p is mask a0(^aa);");
        unknownPlays();
    }

    private static void unknownPlays() {
        String[] places = {"step ?", "step ? when 1=1", "give ? to p when 1=1", "give p to ? when 1=1", "renew ? when 1=1",
            "step p when finished ?", "step p when same ? p", "step p when same p ?", "step p when size ?=1",
            "step p when 1=masks ?", "step p when not [1=1 or min(1,-steps ?)=1]"};
        for (String line : places) {
            String ahead = "actor a; " + PLAY;
            Dues.told(ahead + line.replace("?", "p") + ";");
            for (String other : new String[] {"a", "x", "q", "pp"}) {
                Dues.dueErrorAt(3, ahead.length() + line.indexOf('?'), ahead + line.replace("?", other)
                        + "; play q is p;");
            }
        }
        Dues.dueError(3, "step ^p; " + PLAY);
    }

    private static void error4() {
        String actors = lines("actor a", ";", 8);
        Dues.due("actors", Dues.told(actors).actors(), 8);
        Dues.dueError(4, actors + "actor ^b;");
        String plays = ACTOR + lines("play p", " is a;", 12);
        Dues.due("plays", Dues.told(plays).plays(), 12);
        Dues.dueError(4, plays + "play ^q is a;");
        Dues.told(actors + lines("play p", " is a0;", 12) + "step p11;");
        String[] notes = {"step p; ", "give p to p when 1=1; ", "renew p when 1=1; "};
        for (String note : notes) {
            Dues.due("notes", Dues.told(PLAY + note.repeat(16)).notes(), 16);
            Dues.dueErrorAt(4, PLAY.length() + 16 * note.length(), PLAY + note.repeat(17));
        }
        String together = PLAY + notes[0].repeat(5) + notes[1].repeat(5) + notes[2].repeat(6);
        Dues.due("notes", Dues.told(together).notes(), 16);
        Dues.dueError(4, together + "^step p;");
        Dues.dueError(4, together + "^give p to p when 1=1;");
        Dues.dueError(4, together + "^renew p when 1=1;");
        Dues.told(together + "actor a; play q is p;");
    }

    private static void error5() {
        String names = "a ".repeat(75);
        Dues.due("sizeOf", Dues.told(ACTOR + "play p is mask x([" + names + "]);").sizeOf(0), 150);
        Dues.dueError(5, ACTOR + "play p is [" + names + "a]^;");
        Dues.dueError(5, ACTOR + "play p is mask x(mask x([" + names + "])) \n^; play q is p;");
        Dues.dueError(5, ACTOR + "play p is [" + "a ".repeat(390) + "]^;");
        // Plays told ahead count with all their parts.
        String ahead = ACTOR + "play p is [" + "a ".repeat(37) + "]; play q is [" + "a ".repeat(38) + "]; ";
        Dues.due("sizeOf", Dues.told(ahead + "play r is mask x([p p]);").sizeOf(2), 148);
        Dues.due("sizeOf", Dues.told(ahead + "play r is [p q];").sizeOf(2), 149);
        Dues.due("sizeOf", Dues.told(ahead + "play r is mask x([p q]);").sizeOf(2), 150);
        Dues.dueError(5, ahead + "play r is [q q]^;");
        Dues.dueError(5, ahead + "play r is mask x(mask x([p q]))^;");
        Dues.dueError(5, ahead + "play r is [" + "q ".repeat(150) + "]^;");
        // No more is a play that is refused known behind it.
        MaskPlays x = new MaskPlays();
        Dues.due("teach", Dues.teach(x, ahead + "play r is [q q];"), 5);
        Dues.due("plays", x.plays(), 0);
    }

    // ---- what is told

    private static void numbersOfTold() {
        MaskPlays x = Dues.told("actor b; play q is b; actor a; play p is [a a]; renew p when 1=2; actor c;"
                + " give q to q when 1=2; play c0 is [[a b] [c c] c]; step q;");
        Dues.due("actors", x.actors(), 3);
        Dues.due("plays", x.plays(), 3);
        Dues.due("notes", x.notes(), 3);
        Dues.dueText(x, 0, "b");
        Dues.dueText(x, 1, "[a a]");
        for (int actor = 0; actor < 3; actor++) {
            Dues.due("standsIn(2, " + actor + ")", x.standsIn(2, actor), new int[] {1, 1, 3}[actor]);
        }
        MaskPlays most = Dues.told(lines("actor a", ";", 8) + lines("play p", " is a3;", 11) + "play q is [a0 a7];");
        Dues.due("the last actor", most.standsIn(11, 7), 1);
        Dues.due("the first actor", most.standsIn(11, 0), 1);
        Dues.due("another actor", most.standsIn(11, 3), 0);
        Dues.due("another actor", most.standsIn(10, 3), 1);
    }

    private static void notKnownInItsOwnPart() {
        Dues.dueError(3, "play p is ^p;");
        Dues.dueError(3, "actor a; play p is [a ^p];");
        Dues.dueError(3, "play p is mask x(^p);");
        Dues.told("actor a; play p is a; play q is p;");
        Dues.told("actor a; play p is a; step p;");
        Dues.told("play p is mask p(p); play q is p;");
    }
}
