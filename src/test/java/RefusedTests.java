import java.util.ArrayList;
import java.util.List;

/**
 * "Each method names its errors in the order in which they are checked, and returns the first that applies; a call that
 * returns an error changes nothing." Each refused call is made on one of two equal objects, just outside each boundary;
 * then everything that can be asked, and what later changes answer, must be the same on both.
 */
public final class RefusedTests {
    private static final int NONE = -1, UNKNOWN = -101, OUTSIDE = -102, STATE = -103, FULL = -104;
    private static final int LEAST = Integer.MIN_VALUE, MOST = Integer.MAX_VALUE;
    private static final int CALLS = 512;

    private static int wrong = 0;
    private static int refusals = 0;

    /** The object under test; it counts the calls, as nothing is promised behind the 512th. */
    private static final class Counted {
        private final WordSquares inner = new WordSquares();
        private int calls = 0;

        WordSquares x() {
            calls++;
            if (calls > CALLS) {
                throw new IllegalStateException("a test made more than " + CALLS + " calls");
            }
            return inner;
        }

        void type(String s) {
            for (char c : s.toCharArray()) {
                x().letter(c);
            }
        }

        void list(String s) {
            type(s);
            if (x().words() < 1) {
                throw new IllegalStateException(s + " was not taken");
            }
        }
    }

    private interface Call {
        long on(WordSquares x);
    }

    private interface Maker {
        void make(Counted c);
    }

    /** An empty list and an empty text. */
    private static void nothing(Counted c) {
    }

    /** An empty list, and a text that only ends too early. */
    private static void halfText(Counted c) {
        c.type("ab,c");
    }

    /** An empty list, and a text of 60 characters, a good list of 12 words but for its last comma. */
    private static void fullText(Counted c) {
        c.type("aaaa,aaab,aaba,aabb,abaa,abab,abba,abbb,baaa,baab,baba,babb,");
    }

    /** Four squares, weights, a text, and a board that two squares fit: words 0 in, 1 it, 2 no, 3 to. */
    private static void four(Counted c) {
        c.list("in,to,it,no");
        c.x().weigh(0, 9);
        c.x().weigh(1, 2);
        c.x().weigh(3, 4);
        c.x().put(1, 3);
        c.type("ox,at");
    }

    /** Words of four letters, of which one has been struck, and a board that no square fits. */
    private static void noneFits(Counted c) {
        c.list("abcd,bcda,cdab,dabc,zzzz");
        c.x().strike(4);
        c.x().weigh(2, 3);
        c.x().put(0, 0);
        c.x().put(3, 0);
        c.type("abcd");
    }

    /** The most words, and a text of one word more. */
    private static void twelve(Counted c) {
        c.list("aa,ab,ac,ba,bb,bc,ca,cb,cc,da,db");
        c.list("zz");
        c.x().weigh(11, 9);
        c.x().put(0, 11);
        c.type("dc");
    }

    /** No word is left of a list of three letters. */
    private static void struck(Counted c) {
        c.list("abc");
        c.x().put(2, 0);
        c.x().strike(0);
        c.type("ab,ba");
    }

    private static void seenWords(Counted c, List<Long> seen) {
        int words = c.x().count(0);
        int length = c.x().about(0);
        for (int w = 0; w < words; w++) {
            for (int what = 0; what <= 4; what++) {
                seen.add((long) c.x().word(w, what));
            }
            for (int place = 0; place < length; place++) {
                seen.add((long) c.x().sign(w, place));
            }
            seen.add((long) c.x().begins(w, 1));
        }
    }

    private static void seenSquares(Counted c, List<Long> seen) {
        int length = c.x().about(0);
        for (int kind = 0; kind <= 2; kind++) {
            int n = c.x().squares(kind);
            seen.add((long) n);
            seen.add((long) c.x().heaviest(kind));
            for (int k = 0; k < n && k < 3; k++) {
                for (int r = 0; r < length; r++) {
                    seen.add((long) c.x().row(kind, n - 1 - k, r));
                }
            }
        }
        int n = c.x().squares(0);
        for (int k = 0; k < n && k < 4; k++) {
            seen.add((long) c.x().turned(k));
            seen.add((long) c.x().heavy(k));
        }
    }

    private static void seenBoard(Counted c, List<Long> seen) {
        int length = c.x().about(0);
        for (int r = 0; r < length; r++) {
            seen.add((long) c.x().board(r));
            seen.add((long) c.x().may(r));
            for (int column = 0; column < length; column++) {
                seen.add((long) c.x().sure(r, column));
            }
        }
        seen.add((long) c.x().fitting());
    }

    private static List<Long> seen(Counted c) {
        List<Long> seen = new ArrayList<>();
        for (int what = 0; what <= 5; what++) {
            seen.add((long) c.x().about(what));
        }
        seenWords(c, seen);
        seenSquares(c, seen);
        seenBoard(c, seen);
        for (int what = 0; what <= 4; what++) {
            seen.add((long) c.x().search(what));
            seen.add((long) c.x().count(what));
        }
        seen.add((long) c.x().fault());
        seen.add(c.x().digest());
        return seen;
    }

    /** What later changes answer: they tell also what no asking shows. */
    private static List<Long> later(Counted c) {
        List<Long> seen = new ArrayList<>();
        seen.add((long) c.x().lift(1));
        seen.add((long) c.x().put(0, 1));
        seen.add((long) c.x().weigh(0, 5));
        seen.add(c.x().digest());
        seen.add((long) c.x().words());
        seen.add(c.x().digest());
        seen.add((long) c.x().letter('q'));
        seen.add((long) c.x().fault());
        seen.add((long) c.x().strike(0));
        seen.add(c.x().digest());
        seen.add((long) c.x().blank());
        c.type("xy");
        seen.add((long) c.x().words());
        seen.add(c.x().digest());
        return seen;
    }

    private static void say(String what) {
        wrong++;
        System.out.println(what);
    }

    private static void refused(String told, Maker maker, Call call, int error) {
        refusals++;
        Counted with = new Counted();
        Counted without = new Counted();
        maker.make(with);
        maker.make(without);
        long got = call.on(with.x());
        if (got != error) {
            say(told + " answered " + got + ", due is " + error);
        }
        if (!seen(with).equals(seen(without))) {
            say(told + " changed what is answered behind it");
        }
        long again = call.on(with.x());
        if (again != error) {
            say(told + " answered " + again + " the second time, due is " + error);
        }
        if (!later(with).equals(later(without))) {
            say(told + " changed what later changes answer");
        }
    }

    private static void letter() {
        for (int code : new int[] {31, 127, 0, -1, LEAST, MOST}) {
            refused("letter(" + code + ")", RefusedTests::halfText, x -> x.letter(code), OUTSIDE);
            refused("letter(" + code + ") of a full text", RefusedTests::fullText, x -> x.letter(code), OUTSIDE);
        }
        for (int code : new int[] {32, 97, 126}) {
            refused("letter(" + code + ") of a full text", RefusedTests::fullText, x -> x.letter(code), FULL);
        }
    }

    private static void typedWords(String text, Maker maker, int error) {
        refused("words() with '" + text + "'", c -> {
            maker.make(c);
            c.x().blank();
            c.type(text);
        }, x -> x.words(), error);
    }

    private static void words() {
        refused("words() of an empty text", RefusedTests::nothing, x -> x.words(), STATE);
        refused("words() of a half text", RefusedTests::halfText, x -> x.words(), STATE);
        refused("words() of a full text", RefusedTests::fullText, x -> x.words(), STATE);
        refused("words() of a thirteenth word", RefusedTests::twelve, x -> x.words(), FULL);
        refused("words() of a word of the list", RefusedTests::noneFits, x -> x.words(), STATE);
        for (String text : new String[] {"", "a", ",", "ab,", ",ab", "ab,ab", "ab,cde", "abc,de", "abcde", "aB", "ab cd"}) {
            typedWords(text, RefusedTests::nothing, STATE);
            typedWords(text, RefusedTests::four, STATE);
            typedWords(text, RefusedTests::twelve, STATE);
        }
        for (String text : new String[] {"abc", "abcd", "abc,def", "to", "ox,to", "in,ox"}) {
            typedWords(text, RefusedTests::four, STATE);
        }
        // 4 + 9 words are one too many; a word of the list, or another length, is named first
        typedWords("pa,pb,pc,pd,pe,pf,pg,ph,pi", RefusedTests::four, FULL);
        typedWords("pa,pb,pc,pd,pe,pf,pg,ph,to", RefusedTests::four, STATE);
        typedWords("pqa,pqb,pqc,pqd,pqe,pqf,pqg,pqh,pqi", RefusedTests::four, STATE);
        typedWords("pa,pb,pc,pd,pe,pf,pg,ph,pi,pj,pk,pl", RefusedTests::four, FULL);
        typedWords("pa,pb,pc,pd,pe,pf,pg,ph,pi,pj,pk,pl,pm", RefusedTests::four, STATE);
        typedWords("zz", RefusedTests::twelve, STATE);
        typedWords("zzz", RefusedTests::twelve, STATE);
        typedWords("qq,qr", RefusedTests::twelve, FULL);
    }

    private static void theList() {
        for (int w : new int[] {-1, 4, 5, LEAST, MOST}) {
            refused("strike(" + w + ")", RefusedTests::four, x -> x.strike(w), UNKNOWN);
            refused("weigh(" + w + ", 5)", RefusedTests::four, x -> x.weigh(w, 5), UNKNOWN);
            refused("weigh(" + w + ", 0)", RefusedTests::four, x -> x.weigh(w, 0), UNKNOWN);
            refused("weigh(" + w + ", 10)", RefusedTests::four, x -> x.weigh(w, 10), UNKNOWN);
            refused("word(" + w + ", 1)", RefusedTests::four, x -> x.word(w, 1), UNKNOWN);
            refused("word(" + w + ", 5)", RefusedTests::four, x -> x.word(w, 5), UNKNOWN);
            refused("sign(" + w + ", 0)", RefusedTests::four, x -> x.sign(w, 0), UNKNOWN);
            refused("sign(" + w + ", 2)", RefusedTests::four, x -> x.sign(w, 2), UNKNOWN);
            refused("begins(" + w + ", 0)", RefusedTests::four, x -> x.begins(w, 0), UNKNOWN);
            refused("begins(" + w + ", 3)", RefusedTests::four, x -> x.begins(w, 3), UNKNOWN);
        }
        for (int v : new int[] {0, 10, -1, LEAST, MOST}) {
            refused("weigh(0, " + v + ")", RefusedTests::four, x -> x.weigh(0, v), OUTSIDE);
            refused("weigh(3, " + v + ")", RefusedTests::four, x -> x.weigh(3, v), OUTSIDE);
        }
        for (int what : new int[] {-1, 6, LEAST, MOST}) {
            refused("about(" + what + ")", RefusedTests::four, x -> x.about(what), OUTSIDE);
            refused("about(" + what + ") of nothing", RefusedTests::nothing, x -> x.about(what), OUTSIDE);
        }
        for (int what : new int[] {-1, 5, LEAST, MOST}) {
            refused("word(0, " + what + ")", RefusedTests::four, x -> x.word(0, what), OUTSIDE);
        }
        for (int place : new int[] {-1, 2, 3, LEAST, MOST}) {
            refused("sign(0, " + place + ")", RefusedTests::four, x -> x.sign(0, place), UNKNOWN);
        }
        for (int many : new int[] {-1, 3, LEAST, MOST}) {
            refused("begins(0, " + many + ")", RefusedTests::four, x -> x.begins(0, many), OUTSIDE);
        }
        refused("strike(12)", RefusedTests::twelve, x -> x.strike(12), UNKNOWN);
        refused("weigh(12, 1)", RefusedTests::twelve, x -> x.weigh(12, 1), UNKNOWN);
        refused("strike(16)", RefusedTests::twelve, x -> x.strike(16), UNKNOWN);
        refused("weigh(16, 1)", RefusedTests::twelve, x -> x.weigh(16, 1), UNKNOWN);
    }

    private static void squares() {
        for (int kind : new int[] {-1, 3, LEAST, MOST}) {
            refused("squares(" + kind + ")", RefusedTests::four, x -> x.squares(kind), OUTSIDE);
            refused("heaviest(" + kind + ")", RefusedTests::four, x -> x.heaviest(kind), OUTSIDE);
            refused("heaviest(" + kind + ") of nothing", RefusedTests::nothing, x -> x.heaviest(kind), OUTSIDE);
            refused("row(" + kind + ", 0, 0)", RefusedTests::four, x -> x.row(kind, 0, 0), OUTSIDE);
            refused("row(" + kind + ", 4, 2)", RefusedTests::four, x -> x.row(kind, 4, 2), OUTSIDE);
            refused("row(" + kind + ", 0, 0) of nothing", RefusedTests::nothing, x -> x.row(kind, 0, 0), OUTSIDE);
        }
        for (int square : new int[] {-1, 4, LEAST, MOST}) {
            refused("row(0, " + square + ", 0)", RefusedTests::four, x -> x.row(0, square, 0), UNKNOWN);
            refused("turned(" + square + ")", RefusedTests::four, x -> x.turned(square), UNKNOWN);
            refused("heavy(" + square + ")", RefusedTests::four, x -> x.heavy(square), UNKNOWN);
        }
        for (int square : new int[] {-1, 2, 3, LEAST, MOST}) {
            refused("row(1, " + square + ", 1)", RefusedTests::four, x -> x.row(1, square, 1), UNKNOWN);
            refused("row(2, " + square + ", 1)", RefusedTests::four, x -> x.row(2, square, 1), UNKNOWN);
        }
        for (int row : new int[] {-1, 2, 3, LEAST, MOST}) {
            refused("row(0, 0, " + row + ")", RefusedTests::four, x -> x.row(0, 0, row), UNKNOWN);
            refused("row(2, 1, " + row + ")", RefusedTests::four, x -> x.row(2, 1, row), UNKNOWN);
        }
    }

    private static void board() {
        for (int row : new int[] {-1, 2, 3, 4, LEAST, MOST}) {
            refused("put(" + row + ", 0)", RefusedTests::four, x -> x.put(row, 0), UNKNOWN);
            refused("put(" + row + ", 4)", RefusedTests::four, x -> x.put(row, 4), UNKNOWN);
            refused("lift(" + row + ")", RefusedTests::four, x -> x.lift(row), UNKNOWN);
            refused("board(" + row + ")", RefusedTests::four, x -> x.board(row), UNKNOWN);
            refused("may(" + row + ")", RefusedTests::four, x -> x.may(row), UNKNOWN);
            refused("sure(" + row + ", 0)", RefusedTests::four, x -> x.sure(row, 0), UNKNOWN);
            refused("sure(1, " + row + ")", RefusedTests::four, x -> x.sure(1, row), UNKNOWN);
        }
        for (int w : new int[] {-1, 4, 5, LEAST, MOST}) {
            refused("put(0, " + w + ")", RefusedTests::four, x -> x.put(0, w), UNKNOWN);
            refused("put(1, " + w + ") over a word", RefusedTests::four, x -> x.put(1, w), UNKNOWN);
        }
        refused("lift(0) without a word", RefusedTests::four, x -> x.lift(0), STATE);
        refused("lift(1) without a word", RefusedTests::noneFits, x -> x.lift(1), STATE);
        refused("sure(0, 0) when none fits", RefusedTests::noneFits, x -> x.sure(0, 0), STATE);
        refused("sure(3, 3) when none fits", RefusedTests::noneFits, x -> x.sure(3, 3), STATE);
        for (int out : new int[] {-1, 4, LEAST, MOST}) {
            refused("put(" + out + ", 0)", RefusedTests::noneFits, x -> x.put(out, 0), UNKNOWN);
            refused("put(0, " + out + ")", RefusedTests::noneFits, x -> x.put(0, out), UNKNOWN);
            refused("lift(" + out + ")", RefusedTests::noneFits, x -> x.lift(out), UNKNOWN);
            refused("sure(" + out + ", 0) when none fits", RefusedTests::noneFits, x -> x.sure(out, 0), UNKNOWN);
            refused("sure(0, " + out + ") when none fits", RefusedTests::noneFits, x -> x.sure(0, out), UNKNOWN);
        }
        refused("put(1, 12)", RefusedTests::twelve, x -> x.put(1, 12), UNKNOWN);
        refused("put(0, 12) over a word", RefusedTests::twelve, x -> x.put(0, 12), UNKNOWN);
    }

    private static void searchAndCount() {
        for (int what : new int[] {-1, 5, LEAST, MOST}) {
            refused("search(" + what + ")", RefusedTests::four, x -> x.search(what), OUTSIDE);
            refused("search(" + what + ") of nothing", RefusedTests::nothing, x -> x.search(what), OUTSIDE);
            refused("search(" + what + ") of no word left", RefusedTests::struck, x -> x.search(what), OUTSIDE);
            refused("count(" + what + ")", RefusedTests::four, x -> x.count(what), OUTSIDE);
            refused("count(" + what + ") of nothing", RefusedTests::nothing, x -> x.count(what), OUTSIDE);
        }
        for (int what = 0; what <= 4; what++) {
            int asked = what;
            refused("search(" + what + ") of nothing", RefusedTests::nothing, x -> x.search(asked), STATE);
            refused("search(" + what + ") of no word left", RefusedTests::struck, x -> x.search(asked), STATE);
        }
    }

    /** Of an empty list, new or with all words struck, there is no word, square, row, column or position. */
    private static void emptyList(String told, Maker maker) {
        refused("strike(0) of " + told, maker, x -> x.strike(0), UNKNOWN);
        refused("weigh(0, 1) of " + told, maker, x -> x.weigh(0, 1), UNKNOWN);
        refused("weigh(0, 0) of " + told, maker, x -> x.weigh(0, 0), UNKNOWN);
        refused("word(0, 0) of " + told, maker, x -> x.word(0, 0), UNKNOWN);
        refused("word(0, 5) of " + told, maker, x -> x.word(0, 5), UNKNOWN);
        refused("sign(0, 0) of " + told, maker, x -> x.sign(0, 0), UNKNOWN);
        refused("begins(0, 0) of " + told, maker, x -> x.begins(0, 0), UNKNOWN);
        refused("begins(0, 1) of " + told, maker, x -> x.begins(0, 1), UNKNOWN);
        for (int kind = 0; kind <= 2; kind++) {
            int asked = kind;
            refused("row(" + kind + ", 0, 0) of " + told, maker, x -> x.row(asked, 0, 0), UNKNOWN);
        }
        refused("turned(0) of " + told, maker, x -> x.turned(0), UNKNOWN);
        refused("heavy(0) of " + told, maker, x -> x.heavy(0), UNKNOWN);
        refused("put(0, 0) of " + told, maker, x -> x.put(0, 0), UNKNOWN);
        for (int row = 0; row <= 2; row++) {
            int asked = row;
            refused("lift(" + row + ") of " + told, maker, x -> x.lift(asked), UNKNOWN);
            refused("board(" + row + ") of " + told, maker, x -> x.board(asked), UNKNOWN);
            refused("may(" + row + ") of " + told, maker, x -> x.may(asked), UNKNOWN);
            refused("sure(" + row + ", 0) of " + told, maker, x -> x.sure(asked, 0), UNKNOWN);
        }
    }

    /** Asking is no change: everything asked for the second time is answered as the first time. */
    private static void asking() {
        Maker[] makers = {RefusedTests::nothing, RefusedTests::halfText, RefusedTests::fullText, RefusedTests::four,
            RefusedTests::noneFits, RefusedTests::struck};
        for (int i = 0; i < makers.length; i++) {
            Counted c = new Counted();
            makers[i].make(c);
            List<Long> first = seen(c);
            if (!first.equals(seen(c))) {
                say("asking changed the object of maker " + i);
            }
        }
    }

    /** NONE is below 0 as the errors are, but it is no error: a call that returns it does what it promises. */
    private static void noneIsNoError() {
        Counted c = new Counted();
        four(c);
        long before = c.x().digest();
        if (c.x().put(0, 2) != NONE || c.x().board(0) != 2 || c.x().count(2) != 2 || c.x().digest() == before) {
            say("put(0, 2), which answers NONE, gives the word all the same");
        }
    }

    public static void main(String[] args) {
        letter();
        words();
        theList();
        squares();
        board();
        searchAndCount();
        emptyList("nothing", RefusedTests::nothing);
        emptyList("no word left", RefusedTests::struck);
        asking();
        noneIsNoError();
        System.out.println(refusals + " refused calls, " + wrong + " faults");
        if (wrong != 0) {
            System.exit(1);
        }
    }
}
