import java.util.ArrayDeque;
import java.util.ArrayList;
import java.util.Deque;
import java.util.HashMap;
import java.util.HashSet;
import java.util.List;
import java.util.Map;
import java.util.Set;

/**
 * The document once more, as plainly as it can be written: parts are trees, texts are Strings, and
 * error 1 is found by following all ways through the grammar at once. It shares nothing with the
 * program, so that the program can be held against it.
 */
final class Reference {
    private static final int MOST = 150;

    // ---- parts

    static final class Tree {
        final String name;
        final Tree first;
        final Tree second;

        private Tree(String name, Tree first, Tree second) {
            this.name = name;
            this.first = first;
            this.second = second;
        }

        boolean isName() {
            return first == null;
        }

        boolean isMask() {
            return first != null && second == null;
        }

        boolean isScene() {
            return second != null;
        }

        boolean isReady() {
            return isScene() && first.isMask();
        }

        int size() {
            return 1 + (first == null ? 0 : first.size()) + (second == null ? 0 : second.size());
        }

        int masks() {
            return (isMask() ? 1 : 0) + (first == null ? 0 : first.masks()) + (second == null ? 0 : second.masks());
        }

        int scenes() {
            return (isScene() ? 1 : 0) + (first == null ? 0 : first.scenes()) + (second == null ? 0 : second.scenes());
        }

        int mostAround() {
            if (isName()) {
                return 0;
            }
            return isMask() ? 1 + first.mostAround() : Math.max(first.mostAround(), second.mostAround());
        }

        int stands(String actor) {
            if (isName()) {
                return name.equals(actor) ? 1 : 0;
            }
            if (isMask()) {
                return name.equals(actor) ? 0 : first.stands(actor);
            }
            return first.stands(actor) + second.stands(actor);
        }

        Set<String> open() {
            Set<String> open = new HashSet<>();
            if (isName()) {
                open.add(name);
            } else {
                open.addAll(first.open());
                if (isMask()) {
                    open.remove(name);
                } else {
                    open.addAll(second.open());
                }
            }
            return open;
        }

        Set<String> names() {
            Set<String> names = new HashSet<>();
            if (name != null) {
                names.add(name);
            }
            if (first != null) {
                names.addAll(first.names());
            }
            if (second != null) {
                names.addAll(second.names());
            }
            return names;
        }

        String text() {
            if (isName()) {
                return name;
            }
            if (isMask()) {
                return "mask " + name + "(" + first.text() + ")";
            }
            return "[" + first.text() + " " + second.text() + "]";
        }

        /** The text with masks named by how many masks stand between them and their uses. */
        String shape(List<String> around) {
            if (isName()) {
                int mask = around.lastIndexOf(name);
                return mask < 0 ? name : "#" + (around.size() - mask);
            }
            if (isMask()) {
                List<String> deeper = new ArrayList<>(around);
                deeper.add(name);
                return "mask(" + first.shape(deeper) + ")";
            }
            return "[" + first.shape(around) + " " + second.shape(around) + "]";
        }

        boolean isFinished() {
            return nextAt() < 0;
        }

        /** Where in the text the next scene begins; -1 if there is none. */
        int nextAt() {
            if (isReady()) {
                return 0;
            }
            if (isName()) {
                return -1;
            }
            int in = first.nextAt();
            int ahead = isMask() ? ("mask " + name + "(").length() : 1;
            if (in >= 0) {
                return ahead + in;
            }
            if (isMask()) {
                return -1;
            }
            in = second.nextAt();
            return in < 0 ? -1 : 1 + first.text().length() + 1 + in;
        }

        Tree renamed(String from, String to) {
            if (isName()) {
                return name.equals(from) ? use(to) : this;
            }
            if (isMask()) {
                return name.equals(from) ? this : mask(name, first.renamed(from, to));
            }
            return scene(first.renamed(from, to), second.renamed(from, to));
        }
    }

    static Tree use(String name) {
        return new Tree(name, null, null);
    }

    static Tree mask(String name, Tree below) {
        return new Tree(name, below, null);
    }

    static Tree scene(Tree first, Tree second) {
        return new Tree(null, first, second);
    }

    private static boolean same(Tree a, Tree b) {
        return a.shape(List.of()).equals(b.shape(List.of()));
    }

    private static int renamings;

    private static Tree given(Tree part, String mask, Tree second, Set<String> open) {
        if (part.isName()) {
            return part.name.equals(mask) ? second : part;
        }
        if (part.isScene()) {
            return scene(given(part.first, mask, second, open), given(part.second, mask, second, open));
        }
        if (part.name.equals(mask) || !part.first.open().contains(mask)) {
            return part;
        }
        if (!open.contains(part.name)) {
            return mask(part.name, given(part.first, mask, second, open));
        }
        renamings++;
        Set<String> taken = part.first.names();
        taken.addAll(open);
        int n = 0;
        while (taken.contains("z" + n)) {
            n++;
        }
        return mask("z" + n, given(part.first.renamed(part.name, "z" + n), mask, second, open));
    }

    /** As behind its step, however large; the part itself if it is finished. */
    private static Tree stepped(Tree part) {
        if (part.isReady()) {
            return given(part.first.first, part.first.name, part.second, part.second.open());
        }
        if (part.isFinished()) {
            return part;
        }
        if (part.isMask()) {
            return mask(part.name, stepped(part.first));
        }
        return part.first.isFinished() ? scene(part.first, stepped(part.second))
                : scene(stepped(part.first), part.second);
    }

    private static boolean canStep(Tree part) {
        return !part.isFinished() && stepped(part).size() <= MOST;
    }

    private static Tree after(Tree part, int steps) {
        Tree now = part;
        for (int n = 0; n < steps && canStep(now); n++) {
            now = stepped(now);
        }
        return now;
    }

    private static int toFinish(Tree part) {
        Tree now = part;
        for (int n = 0; n <= 40; n++) {
            if (now.isFinished()) {
                return n;
            }
            if (!canStep(now)) {
                return -1;
            }
            now = stepped(now);
        }
        return -1;
    }

    // ---- the language

    private static final Set<String> KEYWORDS = Set.of("actor", "play", "is", "mask", "step", "give",
            "to", "renew", "when", "evening", "size", "masks", "steps", "finished", "same", "not",
            "and", "or", "min", "max");
    private static final Map<String, String[]> GRAMMAR = new HashMap<>();

    static {
        // A right side with + behind a terminal goes one deeper there, with - one less deep behind it.
        rule("playbook", "line ; playbook", "");
        rule("line", "actor NAME", "play NAME is part", "step NAME", "step NAME when test",
                "give NAME to NAME when test", "renew NAME when test");
        rule("part", "NAME", "mask NAME (+ part )-", "[+ part part parts ]-");
        rule("parts", "part parts", "");
        rule("test", "both boths");
        rule("boths", "or both boths", "");
        rule("both", "single singles");
        rule("singles", "and single singles", "");
        rule("single", "not+ single UP", "[+ test ]-", "finished NAME", "same NAME NAME", "sum order sum");
        rule("order", "<", ">", "=", "<=", ">=");
        rule("sum", "product products");
        rule("products", "+ product products", "- product products", "");
        rule("product", "value values");
        rule("values", "* value values", "/ value values", "");
        rule("value", "NUMBER", "evening", "size NAME", "masks NAME", "steps NAME", "-+ value UP",
                "(+ sum )-", "least (+ sum , sum )-");
        rule("least", "min", "max");
    }

    private static void rule(String left, String... rights) {
        GRAMMAR.put(left, rights);
    }

    /** What is still to come, as a chain, and how deep it is there. */
    private static final class Way {
        final String symbol;
        final Way rest;

        Way(String symbol, Way rest) {
            this.symbol = symbol;
            this.rest = rest;
        }

        static Way of(String right, Way rest) {
            String[] symbols = right.isEmpty() ? new String[0] : right.split(" ");
            Way way = rest;
            for (int i = symbols.length - 1; i >= 0; i--) {
                way = new Way(symbols[i], way);
            }
            return way;
        }
    }

    private static final class Place {
        final Way way;
        final int depth;

        Place(Way way, int depth) {
            this.way = way;
            this.depth = depth;
        }
    }

    static final class Token {
        final String text;
        final int at;

        Token(String text, int at) {
            this.text = text;
            this.at = at;
        }

        boolean isNumber() {
            return text != null && !text.isEmpty() && Character.isDigit(text.charAt(0));
        }

        boolean isName() {
            return text != null && !text.isEmpty() && Character.isLetter(text.charAt(0)) && !KEYWORDS.contains(text);
        }

        String kind() {
            return isNumber() ? "NUMBER" : isName() ? "NAME" : text;
        }
    }

    /** A token without a text is none; that with an empty text is the end. */
    private static List<Token> tokensOf(String tape) {
        List<Token> tokens = new ArrayList<>();
        java.util.regex.Matcher next = java.util.regex.Pattern
                .compile("[ \\n]*+([a-z][a-z0-9]*+|[0-9]++|<=|>=|[()\\[\\];,+*/<>=-])?").matcher(tape);
        int at = 0;
        while (next.find(at) && next.group(1) != null) {
            String text = next.group(1);
            boolean isWord = Character.isLetter(text.charAt(0));
            boolean tooLong = isWord && text.length() > 10 || Character.isDigit(text.charAt(0)) && text.length() > 6;
            if (tooLong || tokens.size() == 400) {
                tokens.add(new Token(null, next.start(1)));
                return tokens;
            }
            tokens.add(new Token(text, next.start(1)));
            at = next.end();
        }
        int behind = next.end();
        tokens.add(new Token(behind == tape.length() ? "" : null, behind));
        return tokens;
    }

    /** Where error 1 is; -1 without one. */
    private static int error1(List<Token> tokens) {
        List<Place> places = List.of(new Place(new Way("playbook", null), 0));
        for (Token token : tokens) {
            if (token.text == null) {
                return token.at;
            }
            List<Place> behind = new ArrayList<>();
            boolean canEnd = false;
            Deque<Place> open = new ArrayDeque<>(places);
            while (!open.isEmpty()) {
                Place place = open.pop();
                if (place.way == null) {
                    canEnd = true;
                    continue;
                }
                String symbol = place.way.symbol;
                if (symbol.equals("UP")) {
                    open.push(new Place(place.way.rest, place.depth - 1));
                } else if (GRAMMAR.containsKey(symbol)) {
                    for (String right : GRAMMAR.get(symbol)) {
                        open.push(new Place(Way.of(right, place.way.rest), place.depth));
                    }
                } else {
                    boolean deeper = symbol.length() > 1 && symbol.endsWith("+");
                    boolean higher = symbol.length() > 1 && symbol.endsWith("-");
                    String terminal = deeper || higher ? symbol.substring(0, symbol.length() - 1) : symbol;
                    int depth = place.depth + (deeper ? 1 : 0) - (higher ? 1 : 0);
                    if (terminal.equals(token.kind()) && depth <= 8) {
                        behind.add(new Place(place.way.rest, depth));
                    }
                }
            }
            if (token.text.isEmpty()) {
                return canEnd ? -1 : token.at;
            }
            if (behind.isEmpty()) {
                return token.at;
            }
            places = distinct(behind);
        }
        throw new AssertionError("the end was not reached");
    }

    /** Ways that are the same are followed once, or they would be more from token to token. */
    private static List<Place> distinct(List<Place> places) {
        Map<String, Place> distinct = new HashMap<>();
        for (Place place : places) {
            StringBuilder text = new StringBuilder();
            text.append(place.depth);
            for (Way way = place.way; way != null; way = way.rest) {
                text.append(' ').append(way.symbol);
            }
            distinct.put(text.toString(), place);
        }
        return new ArrayList<>(distinct.values());
    }

    // ---- the playbook

    private static final class Note {
        String kind;
        int play;
        int gift;
        List<Token> test;
    }

    private static final class Book {
        final List<String> actors = new ArrayList<>();
        final List<String> plays = new ArrayList<>();
        final List<Tree> told = new ArrayList<>();
        final List<Note> notes = new ArrayList<>();
        int error;
        int errorAt = -1;

        boolean fails(int kind, Token token) {
            error = kind;
            errorAt = token.at;
            return true;
        }

        boolean knows(String name) {
            return actors.contains(name) || plays.contains(name);
        }

        /** Looks at the line of these tokens, and returns whether there is an error in it. */
        boolean line(List<Token> line) {
            Token head = line.get(0);
            Token name = line.get(1);
            if (head.text.equals("actor")) {
                if (knows(name.text)) {
                    return fails(2, name);
                }
                actors.add(name.text);
                return actors.size() > 8 && fails(4, name);
            }
            if (head.text.equals("play")) {
                return play(line, name);
            }
            return note(line, head);
        }

        private int cursor;

        private boolean play(List<Token> line, Token name) {
            if (knows(name.text)) {
                return fails(2, name);
            }
            if (plays.size() == 12) {
                return fails(4, name);
            }
            cursor = 3;
            Tree part = part(line, new ArrayList<>());
            if (part == null) {
                return true;
            }
            if (part.size() > MOST) {
                return fails(5, line.get(line.size() - 1));
            }
            plays.add(name.text);
            told.add(part);
            return false;
        }

        private Tree part(List<Token> line, List<String> around) {
            Token token = line.get(cursor++);
            if (token.text.equals("mask")) {
                Token name = line.get(cursor);
                if (knows(name.text)) {
                    fails(2, name);
                    return null;
                }
                cursor += 2;
                List<String> deeper = new ArrayList<>(around);
                deeper.add(name.text);
                Tree below = part(line, deeper);
                cursor++;
                return below == null ? null : mask(name.text, below);
            }
            if (token.text.equals("[")) {
                Tree all = null;
                while (!line.get(cursor).text.equals("]")) {
                    Tree next = part(line, around);
                    if (next == null) {
                        return null;
                    }
                    all = all == null ? next : scene(all, next);
                }
                cursor++;
                return all;
            }
            if (around.contains(token.text) || actors.contains(token.text)) {
                return use(token.text);
            }
            if (plays.contains(token.text)) {
                return told.get(plays.indexOf(token.text));
            }
            fails(3, token);
            return null;
        }

        private boolean note(List<Token> line, Token head) {
            if (notes.size() == 16) {
                return fails(4, head);
            }
            for (Token token : line) {
                if (token.isName() && !plays.contains(token.text)) {
                    return fails(3, token);
                }
            }
            Note note = new Note();
            note.kind = head.text;
            note.play = plays.indexOf(line.get(1).text);
            int when = 2;
            if (head.text.equals("give")) {
                note.gift = note.play;
                note.play = plays.indexOf(line.get(3).text);
                when = 4;
            }
            if (line.get(when).text.equals("when")) {
                note.test = line.subList(when + 1, line.size());
            }
            notes.add(note);
            return false;
        }
    }

    private static Book read(String tape) {
        Book book = new Book();
        List<Token> tokens = tokensOf(tape);
        int error1 = error1(tokens);
        if (error1 >= 0) {
            book.error = 1;
            book.errorAt = error1;
            return book;
        }
        List<Token> line = new ArrayList<>();
        for (Token token : tokens) {
            line.add(token);
            if (token.text.equals(";")) {
                if (book.line(line)) {
                    return book;
                }
                line = new ArrayList<>();
            }
        }
        return book;
    }

    // ---- tests

    private final class Test {
        final List<Token> tokens;
        int at;

        Test(List<Token> tokens) {
            this.tokens = tokens;
        }

        String next() {
            return tokens.get(at).text;
        }

        boolean take(String text) {
            if (next().equals(text)) {
                at++;
                return true;
            }
            return false;
        }

        int play() {
            return book.plays.indexOf(tokens.get(at++).text);
        }

        boolean test() {
            boolean holds = both();
            while (take("or")) {
                holds |= both();
            }
            return holds;
        }

        boolean both() {
            boolean holds = single();
            while (take("and")) {
                holds &= single();
            }
            return holds;
        }

        boolean single() {
            if (take("not")) {
                return !single();
            }
            if (take("[")) {
                boolean holds = test();
                at++;
                return holds;
            }
            if (take("finished")) {
                return now.get(play()).isFinished();
            }
            if (take("same")) {
                return same(now.get(play()), now.get(play()));
            }
            int left = sum();
            String order = tokens.get(at++).text;
            int right = sum();
            return order.startsWith("<") && left < right || order.startsWith(">") && left > right
                    || order.endsWith("=") && left == right;
        }

        int sum() {
            int sum = product();
            while (next().equals("+") || next().equals("-")) {
                sum = take("+") ? sum + product() : at++ >= 0 ? sum - product() : 0;
            }
            return sum;
        }

        int product() {
            int product = value();
            while (next().equals("*") || next().equals("/")) {
                if (take("*")) {
                    product *= value();
                } else {
                    at++;
                    int by = value();
                    // In 64 bits, so that -2147483648 / -1 is no matter of Java's own.
                    product = by == 0 ? 0 : (int) ((long) product / by);
                }
            }
            return product;
        }

        int value() {
            Token token = tokens.get(at++);
            if (token.isNumber()) {
                return Integer.parseInt(token.text);
            }
            switch (token.text) {
                case "evening":
                    return evenings;
                case "size":
                    return now.get(play()).size();
                case "masks":
                    return now.get(play()).masks();
                case "steps":
                    return steps.get(play());
                case "-":
                    return (int) -(long) value();
                case "(":
                    int sum = sum();
                    at++;
                    return sum;
                default:
                    at++;
                    int left = sum();
                    at++;
                    int right = sum();
                    at++;
                    return token.text.equals("min") ? Math.min(left, right) : Math.max(left, right);
            }
        }
    }

    // ---- the state

    private Book book = new Book();
    private List<Tree> now = new ArrayList<>();
    private List<Integer> steps = new ArrayList<>();
    private int evenings;
    private int carriedOut;
    private String tape = "";
    private int errorAt = -1;

    private Reference copy() {
        Reference copy = new Reference();
        copy.book = book;
        copy.now = new ArrayList<>(now);
        copy.steps = new ArrayList<>(steps);
        copy.evenings = evenings;
        copy.carriedOut = carriedOut;
        return copy;
    }

    private Tree check(int play) {
        if (play < 0 || play >= now.size()) {
            throw new IndexOutOfBoundsException();
        }
        return now.get(play);
    }

    private static void must(boolean condition) {
        if (!condition) {
            throw new IllegalArgumentException();
        }
    }

    private static void can(boolean condition) {
        if (!condition) {
            throw new IllegalStateException();
        }
    }

    // ---- the face

    int feed(int a, int b, int c, int d, int e) {
        can(tape.length() + 20 <= 2000);
        StringBuilder all = new StringBuilder(tape);
        for (int number : new int[] {a, b, c, d, e}) {
            all.append((char) (number >>> 24)).append((char) (number >>> 16 & 255))
                    .append((char) (number >>> 8 & 255)).append((char) (number & 255));
        }
        tape = all.toString();
        return tape.length();
    }

    int trim(int n) {
        must(n >= 0 && n <= tape.length());
        tape = tape.substring(0, n);
        return n;
    }

    int teach() {
        Book read = read(tape);
        tape = "";
        errorAt = read.errorAt;
        if (read.error == 0) {
            book = read;
            now = new ArrayList<>(read.told);
            steps = new ArrayList<>();
            for (int i = 0; i < now.size(); i++) {
                steps.add(0);
            }
            evenings = 0;
            carriedOut = 0;
        }
        return read.error;
    }

    int errorAt() {
        return errorAt;
    }

    int actors() {
        return book.actors.size();
    }

    int plays() {
        return now.size();
    }

    int notes() {
        return book.notes.size();
    }

    int evenings() {
        return evenings;
    }

    int notesCarriedOut() {
        return carriedOut;
    }

    int tapeBytes() {
        return tape.length();
    }

    int sizeOf(int play) {
        return check(play).size();
    }

    int masksIn(int play) {
        return check(play).masks();
    }

    int scenesIn(int play) {
        return check(play).scenes();
    }

    int mostMasksAround(int play) {
        return check(play).mostAround();
    }

    int standsIn(int play, int actor) {
        check(play);
        if (actor < 0 || actor >= actors()) {
            throw new IndexOutOfBoundsException();
        }
        return now.get(play).stands(book.actors.get(actor));
    }

    int stepsDone(int play) {
        check(play);
        return steps.get(play);
    }

    boolean isFinished(int play) {
        return check(play).isFinished();
    }

    boolean canStep(int play) {
        return canStep(check(play));
    }

    int textLength(int play) {
        return check(play).text().length();
    }

    int letterAt(int play, int place) {
        String text = check(play).text();
        if (place < 0 || place >= text.length()) {
            throw new IndexOutOfBoundsException();
        }
        return text.charAt(place);
    }

    int nextSceneAt(int play) {
        can(!check(play).isFinished());
        return now.get(play).nextAt();
    }

    int renamedByStep(int play) {
        can(canStep(check(play)));
        renamings = 0;
        stepped(now.get(play));
        return renamings;
    }

    boolean isSame(int a, int b) {
        return same(check(a), check(b));
    }

    boolean isAsTold(int play) {
        return same(check(play), book.told.get(play));
    }

    int doStep(int play) {
        can(canStep(check(play)));
        now.set(play, stepped(now.get(play)));
        steps.set(play, steps.get(play) + 1);
        return sizeOf(play);
    }

    int give(int play, int to) {
        Tree all = scene(check(to), check(play));
        can(all.size() <= MOST);
        now.set(to, all);
        return all.size();
    }

    int renew(int play) {
        check(play);
        now.set(play, book.told.get(play));
        return sizeOf(play);
    }

    int passEvenings(int count) {
        must(count >= 1 && count <= 20);
        int before = carriedOut;
        for (int n = 0; n < count; n++) {
            passEvening();
        }
        return carriedOut - before;
    }

    private void passEvening() {
        for (Note note : book.notes) {
            if (note.test != null && !new Test(note.test).test()) {
                continue;
            }
            String before = now.get(note.play).text();
            if (note.kind.equals("step") && canStep(note.play)) {
                doStep(note.play);
            } else if (note.kind.equals("give") && sizeOf(note.play) + sizeOf(note.gift) + 1 <= MOST) {
                give(note.gift, note.play);
            } else if (note.kind.equals("renew")) {
                renew(note.play);
            }
            if (!now.get(note.play).text().equals(before)) {
                carriedOut++;
            }
        }
        evenings++;
    }

    int stepsToFinish(int play) {
        int count = toFinish(check(play));
        can(count >= 0);
        return count;
    }

    int sizeAfterSteps(int play, int count) {
        check(play);
        must(count >= 0 && count <= 40);
        return after(now.get(play), count).size();
    }

    boolean endSame(int a, int b) {
        return same(after(check(a), 40), after(check(b), 40));
    }

    int sizeAfterEvenings(int play, int count) {
        check(play);
        Reference copy = copy();
        copy.passEvenings(count);
        return copy.sizeOf(play);
    }

    int eveningsUntilFinished(int play) {
        check(play);
        Reference copy = copy();
        for (int n = 0; n <= 20; n++) {
            if (copy.isFinished(play)) {
                return n;
            }
            copy.passEvening();
        }
        return -1;
    }

    int bestGift(int play) {
        check(play);
        int best = -1;
        int fewest = 41;
        for (int gift = 0; gift < now.size(); gift++) {
            Tree all = scene(now.get(play), now.get(gift));
            int count = all.size() <= MOST ? toFinish(all) : -1;
            if (count >= 0 && count < fewest) {
                best = gift;
                fewest = count;
            }
        }
        return best;
    }

    double meanSize() {
        double all = 0;
        for (Tree part : now) {
            all += part.size();
        }
        return now.isEmpty() ? 0 : all / now.size();
    }

    long digest() {
        long d = 941;
        for (int x : new int[] {actors(), plays(), notes(), evenings(), notesCarriedOut(), tapeBytes()}) {
            d = d * 31 + x;
        }
        for (int play = 0; play < plays(); play++) {
            int[] numbers = {sizeOf(play), masksIn(play), scenesIn(play), mostMasksAround(play),
                stepsDone(play), isFinished(play) ? 1 : 0, isAsTold(play) ? 1 : 0, textLength(play)};
            for (int x : numbers) {
                d = d * 31 + x;
            }
            for (char letter : now.get(play).text().toCharArray()) {
                d = d * 31 + letter;
            }
            for (int actor = 0; actor < actors(); actor++) {
                d = d * 31 + standsIn(play, actor);
            }
        }
        return d;
    }
}
