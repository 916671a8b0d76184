import java.math.BigInteger;
import java.util.ArrayList;
import java.util.List;
import java.util.Set;
import java.util.TreeSet;

/**
 * For each sentence of the document that names a boundary case, told before its checks: the answers just inside the
 * boundary and just outside it. That refused calls change nothing is looked at in RefusedTests.
 */
public final class BoundaryTests {
    private static final int NONE = -1, UNKNOWN = -101, OUTSIDE = -102, STATE = -103, FULL = -104;
    private static final int LEAST = Integer.MIN_VALUE, MOST = Integer.MAX_VALUE;
    private static final String TWELVE_OF_2 = "aa,ab,ac,ad,ae,af,ag,ah,ai,aj,ak,al";
    private static final String TWELVE_OF_3 = "aaa,aab,aac,aad,aae,aaf,aag,aah,aai,aaj,aak,aal";
    private static final String TWELVE_OF_4 = "abcd,bcde,cdef,defg,efgh,fghi,ghij,hijk,ijkl,jklm,klmn,lmno";
    // squares: 0 in/no, 1 in/to, 2 it/no, 3 it/to; 0 and 3 are symmetric, 1 and 2 have four different words
    private static final String FOUR = "in,it,no,to";
    // squares: 0 ab/ba, 1 ba/ab, 2 cc/cc, all symmetric
    private static final String THREE = "ab,ba,cc";

    private static int wrong = 0;
    private static final Set<String> SENTENCES = new TreeSet<>();
    private static int checks = 1;
    private static int promise = 0;
    private static String sentence = "";

    /** The sentence that the next checks are for; promise 0 is the section 'Description'. */
    private static void says(int number, String words) {
        closeSentence();
        SENTENCES.add(number + " " + words);
        checks = 0;
        promise = number;
        sentence = words;
    }

    private static void closeSentence() {
        if (checks == 0) {
            wrong++;
            System.out.println("no check of promise " + promise + ", '" + sentence + "'");
        }
    }

    private static void due(String call, long got, long want) {
        checks++;
        if (got != want) {
            wrong++;
            System.out.println("promise " + promise + ", '" + sentence + "': " + call + " answered " + got + ", due is " + want);
        }
    }

    private static void type(WordSquares x, String s) {
        for (char c : s.toCharArray()) {
            x.letter(c);
        }
    }

    private static WordSquares typed(String s) {
        WordSquares x = new WordSquares();
        type(x, s);
        return x;
    }

    private static WordSquares with(String list) {
        WordSquares x = typed(list);
        add(x);
        return x;
    }

    private static void add(WordSquares x) {
        int added = x.words();
        if (added < 1) {
            throw new IllegalStateException("a list was not taken: " + added);
        }
    }

    private static int wordsOf(WordSquares x, String s) {
        x.blank();
        type(x, s);
        return x.words();
    }

    private static WordSquares emptied() {
        WordSquares x = with("abc,bcd");
        x.put(2, 1);
        x.strike(1);
        x.strike(0);
        return x;
    }

    // ---- Description

    private static void calls() {
        says(0, "An object is used for at most 512 calls after it has been made");
        WordSquares x = new WordSquares();
        for (int i = 0; i < 127; i++) {
            due("letter(97)", x.letter('a'), 1);
            due("letter(98)", x.letter('b'), 2);
            due("words()", x.words(), 1);
            due("strike(0)", x.strike(0), 0);
        }
        due("count(3), call 509", x.count(3), 127);
        due("count(4), call 510", x.count(4), 127);
        due("letter(32), call 511", x.letter(32), 1);
        due("digest(), call 512", x.digest(),
                hash(0, 0, 0, 0, 0, 0, 0, 0, 0, -1, -1, -1, 0, 32, 0, 1, 0, 127, 127));
    }

    private static void theList() {
        says(0, "The list has at most 12 words");
        due("words() of 12 of 2 letters", with(TWELVE_OF_2).count(0), 12);
        due("words() of 12 of 3 letters", with(TWELVE_OF_3).count(0), 12);
        due("words() of 12 of 4 letters", with(TWELVE_OF_4).count(0), 12);
        WordSquares x = with(TWELVE_OF_2);
        x.strike(11);
        due("words() of the 12th", wordsOf(x, "zz"), 1);
        due("words() of the 13th", wordsOf(x, "zy"), FULL);
        x.strike(0);
        due("words() of two with room for one", wordsOf(x, "zx,zy"), FULL);
        due("words() of one with room for one", wordsOf(x, "zx"), 1);

        says(0, "no two equal");
        due("words() of ab,ab", typed("ab,ab").words(), STATE);
        due("words() of ab,ac", typed("ab,ac").words(), 2);

        says(0, "all of the same length, which is 2 to 4 letters a to z");
        due("words() of 1 letter", typed("a").words(), STATE);
        due("words() of 2 letters", typed("az").words(), 1);
        due("words() of 3 letters", typed("aza").words(), 1);
        due("words() of 4 letters", typed("azaz").words(), 1);
        due("words() of 5 letters", typed("azaza").words(), STATE);
        due("words() of 2 and 3 letters", typed("az,azb").words(), STATE);
        due("words() of 3 and 2 letters", typed("azb,az").words(), STATE);
        for (int code = 32; code <= 126; code++) {
            boolean letter = code >= 97 && code <= 122;
            due("words() of a and " + code, typed("a" + (char) code).words(), letter ? 1 : STATE);
            due("words() of " + code + " and a", typed((char) code + "a").words(), letter ? 1 : STATE);
        }

        says(0, "At first it is empty");
        due("count(0)", new WordSquares().count(0), 0);
        due("about(1)", new WordSquares().about(1), 0);
    }

    private static void numbering() {
        says(0, "Words are numbered from 0 in alphabetical order; the numbers change when words come or go");
        WordSquares x = with("zz,mm,aa");
        due("sign(0, 0)", x.sign(0, 0), 'a');
        due("sign(2, 0)", x.sign(2, 0), 'z');
        add2(x, "az");
        due("sign(1, 1) when az comes", x.sign(1, 1), 'z');
        due("sign(2, 1) when az comes", x.sign(2, 1), 'm');
        due("sign(3, 1) when az comes", x.sign(3, 1), 'z');
        x.strike(0);
        due("sign(0, 1) when aa goes", x.sign(0, 1), 'z');
        due("sign(2, 0) when aa goes", x.sign(2, 0), 'z');
        due("sign(3, 0) when aa goes", x.sign(3, 0), UNKNOWN);

        says(0, "Each word has a weight from 1 to 9, at first 1");
        WordSquares y = with("bb,cc");
        due("word(0, 0)", y.word(0, 0), 1);
        y.weigh(0, 9);
        y.weigh(1, 8);
        add2(y, "aa");
        due("word(0, 0) of the new word", y.word(0, 0), 1);
        due("word(1, 0) moved up", y.word(1, 0), 9);
        due("word(2, 0) moved up", y.word(2, 0), 8);
        y.strike(1);
        due("word(1, 0) moved down", y.word(1, 0), 8);
        add2(y, "bb");
        due("word(1, 0) of a word that comes again", y.word(1, 0), 1);

        says(0, "also the empty one or a whole word");
        due("about(2) of ab", with("ab").about(2), 3);
        due("about(2) of abcd", with("abcd").about(2), 5);

        says(0, "The reversal of a word has its letters in reverse order");
        WordSquares z = with("abcd,adcb,dcba");
        due("word(0, 1)", z.word(0, 1), 2);
        due("word(1, 1)", z.word(1, 1), NONE);
        due("word(2, 1)", z.word(2, 1), 0);
    }

    private static void add2(WordSquares x, String s) {
        type(x, s);
        add(x);
    }

    private static void theSquares() {
        says(0, "each row, read from left to right, and each column, read downward, is a word of the list");
        due("squares(0) of ab", with("ab").squares(0), 0);
        due("squares(0) of ab,ba", with("ab,ba").squares(0), 2);
        // abc/bca/cab and its two like it; upward they would be words that are not in the list
        due("squares(0) of abc,bca,cab", with("abc,bca,cab").squares(0), 3);
        due("squares(0) of abc,bca", with("abc,bca").squares(0), 0);
        due("squares(0) of zzzz", with("zzzz").squares(0), 1);

        says(0, "1 the symmetric ones, in which each row is the same word as the column with the same number");
        due("squares(1)", with(FOUR).squares(1), 2);
        // ab/ab has the columns aa, bb
        due("squares(0) of aa,ab,bb", with("aa,ab,bb").squares(0), 6);
        due("squares(1) of aa,ab,bb", with("aa,ab,bb").squares(1), 4);

        says(0, "2 those in which all rows and columns are different words");
        due("squares(2)", with(FOUR).squares(2), 2);
        // aa/bb has the columns ab, ab: the rows are different, the columns are not
        due("squares(2) of aa,ab,bb", with("aa,ab,bb").squares(2), 0);
        // one of them has the rows aba, bac, cab and the columns abc, baa, acb; with it goes the one turned
        due("squares(2) of six words", with("aba,abc,acb,baa,bac,cab").squares(2), 6);

        says(0, "The squares of a kind are numbered from 0 in the lexicographic order of the numbers of the words in their rows");
        String[] lists = {FOUR, "aba,abc,acb,baa,bac,cab", "aaba,aabb,abaa,abbb,baaa,baab,baba,bbbb"};
        for (String list : lists) {
            for (int kind = 0; kind <= 2; kind++) {
                ascending(with(list), kind);
            }
        }
    }

    private static void ascending(WordSquares x, int kind) {
        long before = -1;
        for (int k = 0; k < x.squares(kind) && k < 30; k++) {
            long rows = 0;
            for (int r = 0; r < x.about(0); r++) {
                rows = rows * 12 + x.row(kind, k, r);
            }
            due("square " + k + " of kind " + kind + " behind the one before", rows > before ? 1 : 0, 1);
            before = rows;
        }
    }

    private static void weightAndBoard() {
        says(0, "The weight of a square is the sum of the weights of the words in all its rows and columns");
        due("the least of 2 letters", with("aa").heavy(0), 4);
        due("the least of 4 letters", with("aaaa").heavy(0), 8);
        due("the most of 2 letters", heavyOfNine("aa"), 36);
        due("the most of 3 letters", heavyOfNine("aaa"), 54);
        due("the most of 4 letters", heavyOfNine("aaaa"), 72);

        says(0, "A square (of kind 0) fits the board if each row for which a word is given has this word");
        WordSquares x = with(FOUR);
        due("fitting() without a word", x.fitting(), 4);
        x.put(0, 0);
        due("fitting() with row 0", x.fitting(), 2);
        x.put(1, 3);
        due("fitting() with both rows, not symmetric", x.fitting(), 1);
        x.put(1, 0);
        due("fitting() with rows of no square", x.fitting(), 0);

        says(0, "There is a text buffer with at most 60 characters");
        WordSquares y = typed("x".repeat(59));
        due("letter, the 60th", y.letter('x'), 60);
        due("letter, the 61st", y.letter('x'), FULL);

        says(0, "A list is written as 1 to 12 words");
        due("words() of none", typed("").words(), STATE);
        due("words() of 1", typed("ab").words(), 1);
        due("words() of 12", typed(TWELVE_OF_2).words(), 12);
        due("words() of 13", typed(TWELVE_OF_2 + ",am").words(), STATE);

        says(0, "in any order, with a comma between two words; there are no spaces");
        due("words() of zz,aa", typed("zz,aa").words(), 2);
        for (String s : new String[] {",ab", "ab,", "ab,,cd", "ab cd", "ab, cd", " ab", "ab ", "ab;cd", ","}) {
            due("words() of '" + s + "'", typed(s).words(), STATE);
        }
    }

    private static int heavyOfNine(String word) {
        WordSquares x = with(word);
        x.weigh(0, 9);
        return x.heavy(0);
    }

    private static void orderOfErrors() {
        says(0, "Each method names its errors in the order in which they are checked, and returns the first that applies");
        WordSquares full = typed("x".repeat(60));
        due("letter(127) of a full text", full.letter(127), OUTSIDE);
        due("letter(31) of a full text", full.letter(31), OUTSIDE);
        WordSquares twelve = with(TWELVE_OF_2);
        due("words() of no list, and no room", wordsOf(twelve, "zz,"), STATE);
        due("words() of another length, and no room", wordsOf(twelve, "zzz"), STATE);
        due("words() of a word of the list, and no room", wordsOf(twelve, "zz,al"), STATE);
        due("words() with no room alone", wordsOf(twelve, "zz"), FULL);
        WordSquares x = with(FOUR);
        due("weigh(4, 0)", x.weigh(4, 0), UNKNOWN);
        due("weigh(3, 0)", x.weigh(3, 0), OUTSIDE);
        due("word(4, 5)", x.word(4, 5), UNKNOWN);
        due("word(3, 5)", x.word(3, 5), OUTSIDE);
        due("begins(4, 3)", x.begins(4, 3), UNKNOWN);
        due("begins(3, 3)", x.begins(3, 3), OUTSIDE);
        due("row(3, 4, 2)", x.row(3, 4, 2), OUTSIDE);
        due("row(2, 4, 2)", x.row(2, 4, 2), UNKNOWN);
        x.put(0, 3);
        due("sure(2, 0), and no square fits", x.sure(2, 0), UNKNOWN);
        due("sure(0, 2), and no square fits", x.sure(0, 2), UNKNOWN);
        due("sure(0, 0), and no square fits", x.sure(0, 0), STATE);
        due("search(5) of an empty list", emptied().search(5), OUTSIDE);
        due("search(4) of an empty list", emptied().search(4), STATE);

        says(0, "NONE (-1) is not an error; it means that there is no such thing, and is returned only if no error applies");
        due("word(3, 1) without a reversal", with(FOUR).word(3, 1), NONE);
        due("word(4, 1)", with(FOUR).word(4, 1), UNKNOWN);
        due("heaviest(2) of an empty list", emptied().heaviest(2), NONE);
        due("heaviest(3) of an empty list", emptied().heaviest(3), OUTSIDE);
        due("put(0, 3) on an empty board", with(FOUR).put(0, 3), NONE);
        due("put(0, 4) on an empty board", with(FOUR).put(0, 4), UNKNOWN);
        due("board(1) of an empty board", with(FOUR).board(1), NONE);
        due("board(2) of an empty board", with(FOUR).board(2), UNKNOWN);
        due("sure(0, 1) with different letters", with(FOUR).sure(0, 1), NONE);
        due("sure(0, 2)", with(FOUR).sure(0, 2), UNKNOWN);
        due("sure(0, 1) without a square", with("ab").sure(0, 1), STATE);
    }

    // ---- Promises 1 to 5: texts

    private static void newObject() {
        says(1, "Creates an object with an empty list, an empty board, and an empty text");
        WordSquares x = new WordSquares();
        for (int what = 0; what <= 4; what++) {
            due("count(" + what + ")", x.count(what), 0);
        }
        due("blank()", x.blank(), 0);
        due("fitting()", x.fitting(), 0);
        due("words()", x.words(), STATE);
        WordSquares first = with(THREE);
        first.put(0, 1);
        first.letter('x');
        WordSquares second = new WordSquares();
        due("count(0) of another object", second.count(0), 0);
        due("count(1) of another object", second.count(1), 0);
        due("count(2) of another object", second.count(2), 0);
        due("count(0) of the first object", first.count(0), 3);
    }

    private static void letterAndBlank() {
        says(2, "its code, 32 to 126");
        WordSquares x = new WordSquares();
        due("letter(32)", x.letter(32), 1);
        due("letter(126)", x.letter(126), 2);

        says(2, "OUTSIDE if code is out of range");
        for (int code : new int[] {31, 127, 0, -1, 32 + 256, 97 + 65536, LEAST, MOST}) {
            due("letter(" + code + ")", x.letter(code), OUTSIDE);
        }
        due("count(1)", x.count(1), 2);

        says(2, "FULL if the text has 60 characters");
        WordSquares y = new WordSquares();
        for (int n = 1; n <= 60; n++) {
            due("letter, number " + n, y.letter(32 + n), n);
        }
        due("letter(32)", y.letter(32), FULL);
        due("letter(126)", y.letter(126), FULL);
        due("count(1)", y.count(1), 60);

        says(3, "Empties the text");
        due("blank() of 60", y.blank(), 60);
        due("count(1)", y.count(1), 0);
        due("letter(97)", y.letter('a'), 1);
        due("letter(98)", y.letter('b'), 2);
        due("words()", y.words(), 1);

        says(3, "Returns the length that it had");
        due("blank() of an empty text", y.blank(), 0);
        y.letter(',');
        due("blank() of one character", y.blank(), 1);
        due("blank() again", y.blank(), 0);
        y.put(0, 0);
        y.letter('a');
        y.blank();
        due("count(0), the list stays", y.count(0), 1);
        due("board(0), the board stays", y.board(0), 0);
    }

    private static void faultIs(String s, int want) {
        due("fault() of '" + s + "'", typed(s).fault(), want);
    }

    private static boolean isLetter(int code) {
        return code >= 97 && code <= 122;
    }

    private static void fault() {
        says(4, "the words that are in the list already do not matter");
        WordSquares x = with("ab,cd");
        type(x, "ab");
        due("fault() of a word of the list", x.fault(), 2);
        type(x, ",cd");
        due("fault() of words of the list", x.fault(), 5);
        x.blank();
        type(x, "abc,abd");
        due("fault() of another length", x.fault(), 7);
        WordSquares full = with(TWELVE_OF_2);
        type(full, TWELVE_OF_3);
        due("fault() of 12 words more", full.fault(), 47);

        says(4, "the first character with which, given those before it, the text cannot be a list or the beginning of one");
        for (int code = 32; code <= 126; code++) {
            String c = Character.toString(code);
            boolean letter = isLetter(code);
            boolean comma = code == ',';
            faultIs(c, letter ? 1 : 0);
            faultIs("a" + c, letter ? 2 : 1);
            faultIs("ab" + c, letter || comma ? 3 : 2);
            faultIs("abc" + c, letter || comma ? 4 : 3);
            faultIs("abcd" + c, comma ? 5 : 4);
            faultIs("ab," + c, letter ? 4 : 3);
            faultIs("cd,a" + c, letter ? 5 : 4);
            faultIs("cd,ab" + c, comma ? 6 : 5);
            faultIs("cde,ab" + c, letter ? 7 : 6);
            faultIs("cde,abc" + c, comma ? 8 : 7);
            faultIs("cdef,abc" + c, letter ? 9 : 8);
            faultIs("cdef,abcd" + c, comma ? 10 : 9);
        }
        faultIs("ab ?ab", 2);
        faultIs("a,ab,", 1);

        says(4, "of a word that occurs for the second time, this is the last letter");
        faultIs("ab,ab", 4);
        faultIs("abc,abc", 6);
        faultIs("abcd,abcd", 8);
        faultIs("abcd,abce", 9);
        faultIs("abcd,abc", 8);
        faultIs("ab,cd,ab", 7);
        faultIs("ab,cd,cd", 7);
        faultIs("ab,cd,ab,??", 7);
        faultIs("ab,ba", 5);
        faultIs(TWELVE_OF_2.substring(0, 33) + "a", 34);
        faultIs(TWELVE_OF_2.substring(0, 33) + "aa", 34);
        faultIs(TWELVE_OF_2.substring(0, 33) + "ak", 34);
        faultIs(TWELVE_OF_2.substring(0, 33) + "al", 35);

        says(4, "the length of the text if there is no such character");
        faultIs("", 0);
        faultIs("ab", 2);
        faultIs("abcd", 4);
        faultIs(TWELVE_OF_2, 35);
        faultIs(TWELVE_OF_3, 47);
        faultIs(TWELVE_OF_4, 59);

        says(4, "also if the text only ends too early");
        faultIs("a", 1);
        faultIs("ab,", 3);
        faultIs("ab,c", 4);
        faultIs("abc,d", 5);
        faultIs("abcd,efg", 8);
        faultIs(TWELVE_OF_2.substring(0, 33), 33);
        faultIs(TWELVE_OF_2.substring(0, 34), 34);

        says(0, "A list is written as 1 to 12 words of the same length, no two equal");
        faultIs(TWELVE_OF_2 + ",", 35);
        faultIs(TWELVE_OF_3 + ",", 47);
        faultIs(TWELVE_OF_4 + ",", 59);
        faultIs(TWELVE_OF_2 + "a", 35);
        faultIs(TWELVE_OF_2 + ",am", 35);
        faultIs(TWELVE_OF_2.substring(0, 32) + ",", 33);
    }

    private static void words() {
        says(5, "Adds the words of the text to the list, with the weight 1");
        WordSquares x = typed("no");
        due("words() of 1", x.words(), 1);
        due("word(0, 0)", x.word(0, 0), 1);
        x.weigh(0, 9);
        x.put(0, 0);
        x.put(1, 0);
        due("words() of 11", wordsOf(x, "aa,bb,cc,dd,ee,ff,gg,hh,ii,jj,kk"), 11);
        due("word(11, 0), the weight stays", x.word(11, 0), 9);
        due("word(10, 0)", x.word(10, 0), 1);
        due("sign(11, 0)", x.sign(11, 0), 'n');

        says(5, "The text is empty, and no words are given on the board then");
        due("count(1)", x.count(1), 0);
        due("count(2)", x.count(2), 0);
        due("board(0)", x.board(0), NONE);
        due("board(1)", x.board(1), NONE);
        due("fitting()", x.fitting(), 11);
        due("letter(97)", x.letter('a'), 1);

        says(5, "STATE if the text is not a list");
        for (String s : new String[] {"", "a", "abcde", "ab,", "ab,c", "ab,ab", "ab,cde", "abc,de", "Ab", "a-b",
            TWELVE_OF_2 + ",", TWELVE_OF_4 + ",", TWELVE_OF_2 + ",am"}) {
            due("words() of '" + s + "'", typed(s).words(), STATE);
        }

        says(5, "or its words have another length than those of the list (if it has any)");
        due("words() of 2 to 3 letters", wordsOf(with("abc"), "ab"), STATE);
        due("words() of 4 to 3 letters", wordsOf(with("abc"), "abcd"), STATE);
        due("words() of 3 to 3 letters", wordsOf(with("abc"), "abd"), 1);
        due("words() of 2 to none, with 3 before", wordsOf(emptied(), "ab"), 1);
        due("words() of 4 to none, with 3 before", wordsOf(emptied(), "abcd,bcda"), 2);

        says(5, "or one of them is in the list already");
        due("words(), the first", wordsOf(with(FOUR), "in,aa"), STATE);
        due("words(), the last", wordsOf(with(FOUR), "aa,bb,to"), STATE);
        due("words(), one that was struck", wordsOf(emptied(), "abc"), 1);

        says(5, "FULL if the list would have more than 12 words");
        due("words(), 4 + 8", wordsOf(with(FOUR), "pa,pb,pc,pd,pe,pf,pg,ph"), 8);
        due("words(), 4 + 9", wordsOf(with(FOUR), "pa,pb,pc,pd,pe,pf,pg,ph,pi"), FULL);
        due("words(), 1 + 11", wordsOf(with("zz"), TWELVE_OF_2.substring(0, 32)), 11);
        due("words(), 1 + 12", wordsOf(with("zz"), TWELVE_OF_2), FULL);
        due("words(), 12 + 1", wordsOf(with(TWELVE_OF_2), "zz"), FULL);
    }

    // ---- Promises 6 to 11: the list

    private static void strikeAndWeigh() {
        says(6, "Returns how many words are left");
        WordSquares x = with(TWELVE_OF_2);
        for (int left = 11; left >= 0; left--) {
            due("strike of the last", x.strike(left), left);
        }
        due("strike(0) of none", x.strike(0), UNKNOWN);

        says(6, "No words are given on the board then");
        WordSquares y = with("abcd,bcde,cdef,zzzz");
        for (int r = 0; r < 4; r++) {
            y.put(r, 0);
        }
        type(y, "qq");
        y.strike(3);
        due("count(2)", y.count(2), 0);
        due("board(0)", y.board(0), NONE);
        due("board(3)", y.board(3), NONE);
        due("count(1), the text stays", y.count(1), 2);

        says(6, "UNKNOWN if there is no such word");
        for (int w : new int[] {-1, 3, 4, 15, 16, LEAST, MOST}) {
            due("strike(" + w + ")", y.strike(w), UNKNOWN);
        }
        due("strike(2)", y.strike(2), 2);
        due("strike(2) again", y.strike(2), UNKNOWN);

        says(7, "the new weight, 1 to 9");
        WordSquares z = with(TWELVE_OF_2);
        for (int v = 1; v <= 9; v++) {
            due("weigh(11, " + v + ")", z.weigh(11, v), v == 1 ? 1 : v - 1);
            due("word(11, 0)", z.word(11, 0), v);
        }

        says(7, "UNKNOWN if there is no such word; OUTSIDE if v is out of range");
        for (int w : new int[] {-1, 12, 13, 16, LEAST, MOST}) {
            due("weigh(" + w + ", 1)", z.weigh(w, 1), UNKNOWN);
            due("weigh(" + w + ", 0)", z.weigh(w, 0), UNKNOWN);
        }
        for (int v : new int[] {0, 10, -1, LEAST, MOST}) {
            due("weigh(11, " + v + ")", z.weigh(11, v), OUTSIDE);
        }
        due("word(11, 0) behind the errors", z.word(11, 0), 9);
        due("word(10, 0) behind the errors", z.word(10, 0), 1);
    }

    private static void about() {
        says(8, "0: the length of its words; 1: the number of words");
        due("about(0) of 2 letters", with(TWELVE_OF_2).about(0), 2);
        due("about(0) of 4 letters", with(TWELVE_OF_4).about(0), 4);
        due("about(1) of 1", with("aaa").about(1), 1);
        due("about(1) of 12", with(TWELVE_OF_4).about(1), 12);

        says(8, "2: the number of different prefixes, the empty one included");
        due("about(2), 12 different letters in front", with(TWELVE_OF_4).about(2), 49);
        due("about(2), one letter in front", with(TWELVE_OF_2).about(2), 14);

        says(8, "3: the number of different letters in its words");
        due("about(3) of one letter", with("aa").about(3), 1);
        due("about(3) of all letters", with("abcd,efgh,ijkl,mnop,qrst,uvwx,yzyz").about(3), 26);

        says(8, "4: the sum of the weights");
        WordSquares x = with(TWELVE_OF_3);
        due("about(4) of the least", x.about(4), 12);
        for (int w = 0; w < 12; w++) {
            x.weigh(w, 9);
        }
        due("about(4) of the most", x.about(4), 108);

        says(8, "5: the number of words whose reversal is in the list (the word itself, too, if it is its own reversal)");
        due("about(5) of aba", with("aba").about(5), 1);
        due("about(5) of abc", with("abc").about(5), 0);
        due("about(5) of both", with("aba,abb,abc,cba").about(5), 3);

        says(8, "All are 0 if the list is empty");
        for (int what = 0; what <= 5; what++) {
            due("about(" + what + ") of a new object", new WordSquares().about(what), 0);
            due("about(" + what + ") with all words struck", emptied().about(what), 0);
            due("about(" + what + ") of one word", with("aa").about(what) > 0 ? 1 : 0, 1);
        }

        says(8, "OUTSIDE if what is out of range");
        for (int what : new int[] {-1, 6, LEAST, MOST}) {
            due("about(" + what + ")", with(FOUR).about(what), OUTSIDE);
            due("about(" + what + ") of an empty list", emptied().about(what), OUTSIDE);
        }
    }

    private static void word() {
        says(9, "the number of its reversal, NONE if it is not in the list");
        WordSquares x = with(THREE);
        due("word(0, 1)", x.word(0, 1), 1);
        due("word(1, 1)", x.word(1, 1), 0);
        due("word(2, 1), itself", x.word(2, 1), 2);
        x.strike(1);
        due("word(0, 1) when it went", x.word(0, 1), NONE);

        says(9, "in how many rows of squares of kind 0 it stands, all together; 3: in how many columns of them");
        WordSquares y = with("aaaa");
        due("word(0, 2), four rows of one square", y.word(0, 2), 4);
        due("word(0, 3)", y.word(0, 3), 4);
        WordSquares none = with("ab");
        due("word(0, 2) without squares", none.word(0, 2), 0);
        due("word(0, 3) without squares", none.word(0, 3), 0);

        says(9, "4: in how many squares of kind 1 it stands");
        due("word(0, 4), a square counts once", y.word(0, 4), 1);
        due("word(0, 4) without squares", none.word(0, 4), 0);
        // no in in/no, and in it/no, which is not symmetric
        due("word(2, 4)", with(FOUR).word(2, 4), 1);
        due("word(2, 2)", with(FOUR).word(2, 2), 2);

        says(9, "UNKNOWN if there is no such word; OUTSIDE if what is out of range");
        WordSquares z = with(TWELVE_OF_2);
        due("word(11, 0)", z.word(11, 0), 1);
        for (int w : new int[] {-1, 12, 16, LEAST, MOST}) {
            due("word(" + w + ", 0)", z.word(w, 0), UNKNOWN);
            due("word(" + w + ", 5)", z.word(w, 5), UNKNOWN);
        }
        for (int what : new int[] {-1, 5, LEAST, MOST}) {
            due("word(11, " + what + ")", z.word(11, what), OUTSIDE);
        }
    }

    private static void signAndBegins() {
        says(10, "UNKNOWN if there is no such word or position");
        for (String list : new String[] {"az,za", "abz,zba", "abcz,zcba"}) {
            WordSquares x = with(list);
            int length = list.indexOf(',');
            due("sign(0, 0)", x.sign(0, 0), 97);
            due("sign(0, last)", x.sign(0, length - 1), 122);
            due("sign(1, 0)", x.sign(1, 0), 122);
            due("sign(1, last)", x.sign(1, length - 1), 97);
            for (int place : new int[] {-1, length, length + 1, LEAST, MOST}) {
                due("sign(1, " + place + ")", x.sign(1, place), UNKNOWN);
            }
            for (int w : new int[] {-1, 2, LEAST, MOST}) {
                due("sign(" + w + ", 0)", x.sign(w, 0), UNKNOWN);
            }
        }

        says(11, "how many letters are compared, 0 to the length of the words");
        WordSquares x = with("abcd,abce,abde,acde,bcde");
        int[] many = {5, 4, 3, 2, 1};
        for (int n = 0; n <= 4; n++) {
            due("begins(0, " + n + ")", x.begins(0, n), many[n]);
        }
        due("begins(4, 0)", x.begins(4, 0), 5);
        due("begins(4, 1)", x.begins(4, 1), 1);
        due("begins(0, 2) of 2 letters", with(TWELVE_OF_2).begins(0, 2), 1);
        due("begins(0, 1) of 2 letters", with(TWELVE_OF_2).begins(0, 1), 12);

        says(11, "UNKNOWN if there is no such word; OUTSIDE if many is out of range");
        for (int n : new int[] {-1, 5, LEAST, MOST}) {
            due("begins(4, " + n + ")", x.begins(4, n), OUTSIDE);
            due("begins(5, " + n + ")", x.begins(5, n), UNKNOWN);
        }
        due("begins(0, 3) of 2 letters", with(TWELVE_OF_2).begins(0, 3), OUTSIDE);
        due("begins(-1, 0)", x.begins(-1, 0), UNKNOWN);
        due("begins(0, 0) of an empty list", emptied().begins(0, 0), UNKNOWN);
    }

    // ---- Promises 12 to 16: squares

    private static void squaresAndRow() {
        says(12, "Returns the number of squares of a kind");
        for (int kind = 0; kind <= 2; kind++) {
            due("squares(" + kind + ") of an empty list", new WordSquares().squares(kind), 0);
            due("squares(" + kind + ") with all words struck", emptied().squares(kind), 0);
            due("squares(" + kind + ") of ab", with("ab").squares(kind), 0);
        }
        int[] ofOne = {1, 1, 0};
        for (int kind = 0; kind <= 2; kind++) {
            due("squares(" + kind + ") of aaa", with("aaa").squares(kind), ofOne[kind]);
        }

        // counted by trying all 12 to the power of 4 ways to choose the rows
        int[] ofTwelve = {9072, 360, 384};
        WordSquares twelve = with("aaaa,aaab,aaba,aabb,abaa,abab,abba,abbb,baaa,baab,baba,babb");
        for (int kind = 0; kind <= 2; kind++) {
            due("squares(" + kind + ") of 12 words with many", twelve.squares(kind), ofTwelve[kind]);
        }
        int[] lastRows = {11, 4, 11, 11};
        for (int r = 0; r <= 3; r++) {
            due("row(0, last, " + r + ") of many", twelve.row(0, ofTwelve[0] - 1, r), lastRows[r]);
        }
        due("turned(turned(last)) of many", twelve.turned(twelve.turned(ofTwelve[0] - 1)), ofTwelve[0] - 1);

        says(12, "OUTSIDE if kind is out of range");
        for (int kind : new int[] {-1, 3, LEAST, MOST}) {
            due("squares(" + kind + ")", with(FOUR).squares(kind), OUTSIDE);
            due("squares(" + kind + ") of an empty list", new WordSquares().squares(kind), OUTSIDE);
        }

        says(13, "OUTSIDE if kind is out of range; UNKNOWN if there is no such square or row");
        WordSquares x = with(FOUR);
        due("row(0, 0, 0)", x.row(0, 0, 0), 0);
        due("row(0, 3, 1)", x.row(0, 3, 1), 3);
        due("row(1, 1, 0)", x.row(1, 1, 0), 1);
        due("row(2, 1, 1)", x.row(2, 1, 1), 2);
        due("row(0, 4, 0)", x.row(0, 4, 0), UNKNOWN);
        due("row(1, 2, 0)", x.row(1, 2, 0), UNKNOWN);
        due("row(2, 2, 0)", x.row(2, 2, 0), UNKNOWN);
        due("row(0, 3, 2)", x.row(0, 3, 2), UNKNOWN);
        for (int out : new int[] {-1, LEAST, MOST}) {
            due("row(" + out + ", 0, 0)", x.row(out, 0, 0), OUTSIDE);
            due("row(0, " + out + ", 0)", x.row(0, out, 0), UNKNOWN);
            due("row(0, 0, " + out + ")", x.row(0, 0, out), UNKNOWN);
        }
        due("row(3, 0, 0)", x.row(3, 0, 0), OUTSIDE);
        due("row(0, 0, 3) of 4 letters", with("aaaa").row(0, 0, 3), 0);
        due("row(0, 0, 4) of 4 letters", with("aaaa").row(0, 0, 4), UNKNOWN);
        due("row(0, 0, 0) without squares", with("ab").row(0, 0, 0), UNKNOWN);
        x.strike(0);
        due("row(0, 0, 0) when only it/to is left", x.row(0, 0, 0), 0);
        due("row(0, 1, 0) when only it/to is left", x.row(0, 1, 0), UNKNOWN);
    }

    private static void turnedHeaviestHeavy() {
        says(14, "UNKNOWN if there is no such square");
        WordSquares x = with(FOUR);
        int[] turned = {0, 2, 1, 3};
        for (int k = 0; k < 4; k++) {
            due("turned(" + k + ")", x.turned(k), turned[k]);
        }
        for (int k : new int[] {-1, 4, LEAST, MOST}) {
            due("turned(" + k + ")", x.turned(k), UNKNOWN);
        }
        due("turned(0) of one square", with("aa").turned(0), 0);
        due("turned(1) of one square", with("aa").turned(1), UNKNOWN);
        due("turned(0) of none", with("ab").turned(0), UNKNOWN);

        says(15, "of several the one with the lowest number");
        WordSquares y = with(THREE);
        due("heaviest(0), all equal", y.heaviest(0), 0);
        y.weigh(2, 2);
        due("heaviest(0), the last", y.heaviest(0), 2);
        y.weigh(1, 3);
        due("heaviest(0), 8 three times", y.heaviest(0), 0);
        y.weigh(1, 2);
        due("heaviest(0), 6 against 8", y.heaviest(0), 2);

        says(15, "Returns its number among those of this kind");
        // he 0, in 1, it 2, ke 3, no 4, sh 5, sk 6, to 7; sh/he is 4 of all and 2 of kind 1, sh/ke is 2 of kind 2
        WordSquares z = with("in,it,no,to,sh,sk,he,ke");
        z.weigh(5, 2);
        due("heaviest(0)", z.heaviest(0), 4);
        due("heaviest(1)", z.heaviest(1), 2);
        due("heaviest(2)", z.heaviest(2), 2);

        says(15, "NONE if there is none; OUTSIDE if kind is out of range");
        for (int kind = 0; kind <= 2; kind++) {
            due("heaviest(" + kind + ") of an empty list", new WordSquares().heaviest(kind), NONE);
            due("heaviest(" + kind + ") of ab", with("ab").heaviest(kind), NONE);
        }
        due("heaviest(1) of aa", with("aa").heaviest(1), 0);
        due("heaviest(2) of aa", with("aa").heaviest(2), NONE);
        for (int kind : new int[] {-1, 3, LEAST, MOST}) {
            due("heaviest(" + kind + ")", with(FOUR).heaviest(kind), OUTSIDE);
            due("heaviest(" + kind + ") of an empty list", new WordSquares().heaviest(kind), OUTSIDE);
        }

        says(16, "UNKNOWN if there is no such square");
        x.weigh(0, 9);
        due("heavy(0)", x.heavy(0), 20);
        due("heavy(3)", x.heavy(3), 4);
        for (int k : new int[] {-1, 4, LEAST, MOST}) {
            due("heavy(" + k + ")", x.heavy(k), UNKNOWN);
        }
        due("heavy(0) of none", with("ab").heavy(0), UNKNOWN);
    }

    // ---- Promises 17 to 22: the board

    private static void putLiftBoard() {
        for (String list : new String[] {TWELVE_OF_2, TWELVE_OF_3, TWELVE_OF_4}) {
            putLiftBoardOf(list, list.indexOf(','));
        }
        says(18, "UNKNOWN if there is no such row; STATE if no word was given for it");
        WordSquares x = with(FOUR);
        due("lift(0) of an empty board", x.lift(0), STATE);
        due("lift(2)", x.lift(2), UNKNOWN);
        x.put(1, 0);
        due("lift(0), the other row", x.lift(0), STATE);
        due("lift(1)", x.lift(1), 0);
        due("lift(1) again", x.lift(1), STATE);
        x.put(0, 3);
        x.strike(0);
        due("lift(0) behind strike", x.lift(0), STATE);
    }

    private static void putLiftBoardOf(String list, int length) {
        WordSquares x = with(list);
        says(17, "the word that was given for it before, NONE if there was none");
        for (int r = 0; r < length; r++) {
            due("put(" + r + ", 11)", x.put(r, 11), NONE);
            due("put(" + r + ", 0)", x.put(r, 0), 11);
            due("put(" + r + ", 0)", x.put(r, 0), 0);
            due("count(2)", x.count(2), r + 1);
        }

        says(17, "UNKNOWN if there is no such row or word");
        for (int out : new int[] {-1, length, 4, LEAST, MOST}) {
            due("put(" + out + ", 0)", x.put(out, 0), UNKNOWN);
        }
        for (int out : new int[] {-1, 12, 13, 16, LEAST, MOST}) {
            due("put(0, " + out + ")", x.put(0, out), UNKNOWN);
        }

        says(19, "the number of the word, NONE if there is none; UNKNOWN if there is no such row");
        for (int out : new int[] {-1, length, 4, LEAST, MOST}) {
            due("board(" + out + ")", x.board(out), UNKNOWN);
        }
        due("board(last)", x.board(length - 1), 0);

        says(18, "the row, 0 to the length of the words - 1");
        for (int out : new int[] {-1, length, 4, LEAST, MOST}) {
            due("lift(" + out + ")", x.lift(out), UNKNOWN);
        }
        for (int r = 0; r < length; r++) {
            due("lift(" + r + ")", x.lift(r), 0);
            due("lift(" + r + ") again", x.lift(r), STATE);
            due("board(" + r + ")", x.board(r), NONE);
            due("count(2)", x.count(2), length - 1 - r);
        }
    }

    private static void fittingMaySure() {
        says(20, "Returns the number of squares that fit the board");
        due("fitting() of an empty list", emptied().fitting(), 0);
        due("fitting() without squares", with("ab").fitting(), 0);
        WordSquares x = with(FOUR);
        x.put(0, 1);
        x.put(1, 2);
        due("fitting(), all rows given", x.fitting(), 1);
        x.lift(0);
        due("fitting() behind lift", x.fitting(), 2);
        x.lift(1);
        due("fitting() of an empty board", x.fitting(), 4);

        says(21, "the set of these words as a bit mask, bit w for word w");
        WordSquares last = with("aa,ab,ac,ba,bb,bc,ca,cb,cc,da,db,zz");
        last.put(0, 11);
        due("may(0), word 11", last.may(0), 2048);
        due("may(1), word 11", last.may(1), 2048);
        due("may(0), words 0 and 1", with(FOUR).may(0), 3);
        due("may(1), words 2 and 3", with(FOUR).may(1), 12);
        last.put(1, 0);
        due("may(0), none fits", last.may(0), 0);
        due("may(1), none fits", last.may(1), 0);
        due("may(0) without squares", with("ab").may(0), 0);

        says(21, "UNKNOWN if there is no such row");
        for (int row : new int[] {-1, 2, 3, LEAST, MOST}) {
            due("may(" + row + ")", with(FOUR).may(row), UNKNOWN);
        }
        due("may(3) of 4 letters", with("aaaa").may(3), 1);
        due("may(4) of 4 letters", with("aaaa").may(4), UNKNOWN);
        due("may(0) of an empty list", emptied().may(0), UNKNOWN);

        says(22, "the code of the letter; NONE if they have different letters there");
        due("sure(0, 0)", x.sure(0, 0), 'i');
        due("sure(0, 1), n and t", x.sure(0, 1), NONE);
        due("sure(1, 1)", x.sure(1, 1), 'o');
        x.put(0, 0);
        due("sure(0, 1) with in", x.sure(0, 1), 'n');
        due("sure(1, 0) with in", x.sure(1, 0), NONE);
        due("sure(0, 0) of zzzz", with("zzzz").sure(0, 0), 'z');
        due("sure(3, 3) of aaaa", with("aaaa").sure(3, 3), 'a');

        says(22, "UNKNOWN if there is no such row or column; STATE if no square fits the board");
        for (int out : new int[] {-1, 2, 3, LEAST, MOST}) {
            due("sure(" + out + ", 0)", x.sure(out, 0), UNKNOWN);
            due("sure(0, " + out + ")", x.sure(0, out), UNKNOWN);
        }
        x.put(1, 0);
        due("sure(0, 0), none fits", x.sure(0, 0), STATE);
        due("sure(1, 1), none fits", x.sure(1, 1), STATE);
        due("sure(1, 2), none fits", x.sure(1, 2), UNKNOWN);
        x.put(1, 2);
        due("sure(1, 1), one fits", x.sure(1, 1), 'o');
        due("sure(0, 0) of an empty list", emptied().sure(0, 0), UNKNOWN);
    }

    // ---- Promises 23 to 25

    private static void searchIs(String list, int... want) {
        WordSquares x = with(list);
        for (int what = 0; what <= 4; what++) {
            due("search(" + what + ") of " + list, x.search(what), want[what]);
        }
    }

    private static void search() {
        says(0, "The search begins with the state without rows. It visits a state when it comes to it");
        searchIs("ab", 1, 1, 1, 0, 1);
        searchIs("aa", 3, 0, 3, 0, 0);
        searchIs("aaaa", 5, 0, 5, 0, 0);

        says(0, "A state that has not all rows is dead if the search has gone on from it and has not found any square");
        // acbc, acbc/ccbc, bbbc, bbbc/bbbc, ccbc, ccbc/ccbc lead nowhere. With memory, bbbc/bbbc is alike to acbc/ccbc,
        // where every column goes on with bc, and ccbc is alike to acbc.
        searchIs("acbc,bbbc,ccbc", 7, 7, 6, 2, 4);

        says(0, "does not go on from a state that is alike to one which was found dead before");
        // aa and ba are alike, but not dead: aa/aa, ba/aa
        searchIs("aa,ba", 5, 0, 5, 0, 0);
        // the dead baa, then caa that is alike to it
        searchIs("abc,baa,caa", 6, 2, 6, 1, 1);

        says(0, "are alike if in each column the prefixes that they have there have the same set of rests");
        // both go on with ba in each column
        searchIs("aba,bba", 3, 3, 3, 1, 2);
        // bb, ab, ab and ab, bb, ab: the same sets, but not in the same columns
        searchIs("abb,bab", 3, 3, 3, 0, 3);
        // a goes on with ab and bb, b with ab alone: what comes first is the same, the set is not
        searchIs("aab,abb,bab", 4, 4, 4, 0, 4);
        searchIs("aba,baa,bba", 4, 4, 4, 0, 4);
        searchIs("abaa,abab,bbaa", 4, 4, 4, 0, 4);
        // only the last column, or only the second one, is not the same
        searchIs("aba,abb,baa", 9, 1, 9, 0, 1);
        searchIs("aabb,abbb,bbab", 8, 8, 8, 1, 7);
        searchIs("aabc,bbaa,cbaa", 6, 6, 5, 1, 4);
        searchIs("abb,bba,bbc,bca,cbb", 14, 4, 13, 1, 2);
        // long lists with many dead states, some with the highest words in all columns: none is taken for another
        searchIs("acef,bbfe,bcec,bdee,beec,dbbb,eadd,eefc,fbcd,feab,fedd", 11, 11, 11, 1, 10);
        searchIs("aaab,aabb,abab,abba,abbb,acbc,babb,bbac,bcbb,cacc,cbab,ccba", 289, 157, 288, 28, 128);
        searchIs("abaa,abae,adec,aeea,babb,bbad,beed,ccba,cedc,dcad,dddc,eeee", 42, 24, 42, 0, 24);
        searchIs("aaaa,aaba,aabb,abaa,abab,abba,abbb,baaa,baab,bbaa,bbab,bbbb", 8521, 0, 8521, 0, 0);

        says(23, "OUTSIDE if what is out of range; STATE if the list is empty");
        for (int what : new int[] {-1, 5, LEAST, MOST}) {
            due("search(" + what + ")", with(FOUR).search(what), OUTSIDE);
            due("search(" + what + ") of an empty list", new WordSquares().search(what), OUTSIDE);
            due("search(" + what + ") with all words struck", emptied().search(what), OUTSIDE);
        }
        for (int what = 0; what <= 4; what++) {
            due("search(" + what + ") of an empty list", new WordSquares().search(what), STATE);
            due("search(" + what + ") with all words struck", emptied().search(what), STATE);
            due("search(" + what + ") of one word", with("ab").search(what) >= 0 ? 1 : 0, 1);
        }
        WordSquares x = with("ab");
        x.strike(0);
        due("search(0) behind strike", x.search(0), STATE);
        due("words() of aa", wordsOf(x, "aa"), 1);
        due("search(0) behind words()", x.search(0), 3);
    }

    private static void count() {
        says(24, "0: words; 1: characters of the text; 2: rows of the board for which a word is given");
        WordSquares x = with(TWELVE_OF_4);
        type(x, "z".repeat(61));
        for (int r = 0; r < 4; r++) {
            x.put(r, 11);
            x.put(r, r);
        }
        due("count(0)", x.count(0), 12);
        due("count(1)", x.count(1), 60);
        due("count(2)", x.count(2), 4);

        says(24, "3: how often words() has added words; 4: how many words have been removed by strike()");
        due("count(3), of 12 words at once", x.count(3), 1);
        x.words();
        due("count(3), behind a refused one", x.count(3), 1);
        x.strike(12);
        due("count(4), behind a refused one", x.count(4), 0);
        x.strike(11);
        x.strike(10);
        due("count(4)", x.count(4), 2);
        x.blank();
        type(x, "zzzz");
        x.words();
        due("count(3)", x.count(3), 2);
        due("count(4), words() removes none", x.count(4), 2);

        says(24, "OUTSIDE if what is out of range");
        for (int what : new int[] {-1, 5, LEAST, MOST}) {
            due("count(" + what + ")", x.count(what), OUTSIDE);
            due("count(" + what + ") of a new object", new WordSquares().count(what), OUTSIDE);
        }
    }

    /** The checksum without a bound on its size, taken down to a long only at the end. */
    private static BigInteger unbounded(List<Long> numbers) {
        BigInteger h = BigInteger.valueOf(1579);
        for (long v : numbers) {
            h = h.multiply(BigInteger.valueOf(31)).add(BigInteger.valueOf(v));
        }
        return h;
    }

    private static long hash(long... numbers) {
        List<Long> list = new ArrayList<>();
        for (long v : numbers) {
            list.add(v);
        }
        return unbounded(list).longValue();
    }

    private static List<Long> numbers(WordSquares x, String text, int most) {
        List<Long> v = new ArrayList<>();
        int length = x.about(0);
        for (int what = 0; what <= 5; what++) v.add((long) x.about(what));
        for (int w = 0; w < x.about(1); w++) {
            for (int i = 0; i < length; i++) v.add((long) x.sign(w, i));
            for (int what = 0; what <= 4; what++) v.add((long) x.word(w, what));
        }
        for (int kind = 0; kind <= 2; kind++) v.add((long) x.squares(kind));
        for (int k = 0; k < most && k < x.squares(0); k++) {
            for (int r = 0; r < length; r++) v.add((long) x.row(0, k, r));
        }
        for (int kind = 0; kind <= 2; kind++) v.add((long) x.heaviest(kind));
        for (int r = 0; r < length; r++) {
            v.add((long) x.board(r));
            v.add((long) x.may(r));
            for (int c = 0; c < length && x.fitting() > 0; c++) v.add((long) x.sure(r, c));
        }
        v.add((long) x.fitting());
        for (int what = 0; what <= 4 && x.about(1) > 0; what++) v.add((long) x.search(what));
        for (char c : text.toCharArray()) v.add((long) c);
        for (int what = 0; what <= 4; what++) v.add((long) x.count(what));
        return v;
    }

    private static void digestOf(String list, int squares) {
        WordSquares x = with(list);
        due("squares(0) of " + list, x.squares(0), squares);
        due("digest() of " + list, x.digest(), unbounded(numbers(x, "", 40)).longValue());
    }

    /** All answers but the last two, how often words came and went, which tell two lives with one list apart. */
    private static List<Long> answers(WordSquares x) {
        List<Long> v = numbers(x, "", 9);
        return v.subList(0, v.size() - 2);
    }

    private static void anotherList() {
        String many = "aa,ab,ac,ba,bb,bc,ca,cb,cc";
        String dead = "acbc,bbbc,ccbc";
        says(6, "Removes a word from the list");
        for (String list : new String[] {many, dead, FOUR}) {
            WordSquares x = with(list);
            x.weigh(0, 9);
            x.put(1, 2);
            answers(x);
            for (int left = x.count(0); left > 0; left--) {
                x.strike(left - 1);
            }
            due("all is as at first behind " + list, answers(x).equals(answers(new WordSquares())) ? 1 : 0, 1);
        }

        says(5, "Adds the words of the text to the list");
        for (String first : new String[] {many, dead}) {
            for (String list : new String[] {"aa", "ab", FOUR, "bbbc", "aba,bba", dead}) {
                WordSquares x = with(first);
                x.put(0, 2);
                answers(x);
                for (int left = x.count(0); left > 0; left--) {
                    x.strike(0);
                }
                add2(x, list);
                due("all is as if " + list + " had come before " + first, answers(x).equals(answers(with(list))) ? 1 : 0, 1);
            }
        }
        WordSquares x = with("in,no");
        x.put(0, 1);
        answers(x);
        add2(x, "it,to");
        due("all is as if all had come at once", answers(x).equals(answers(with(FOUR))) ? 1 : 0, 1);
        x.strike(1);
        x.strike(2);
        due("all is as if two had never come", answers(x).equals(answers(with("in,no"))) ? 1 : 0, 1);
    }

    private static void digest() {
        says(25, "for each of the first 40 squares of kind 0 the words of its rows");
        digestOf("aac,acc,bac,cca,ccb,ccc", 39);
        digestOf("aba,abb,baa,bba,bbb", 40);
        digestOf("add,bdd,dbd,ddb,ddd", 41);
        digestOf("ad,bb,bc,cb,cc,cd,db,dc", 39);
        digestOf("ab,ba,bb,bc,ca,cb,cc,db", 40);
        digestOf("ac,ad,ca,cb,cc,da,db,dc,dd", 41);
        digestOf("aaaa,aaba,abab,abbb,baba", 40);
        digestOf("aaab,aaba,abaa,baaa,bbbb", 41);
        digestOf("aa,ab,ac,ba,bb,bc,ca,cb,cc", 81);

        says(25, "in long arithmetic, which wraps");
        long empty = hash(0, 0, 0, 0, 0, 0, 0, 0, 0, -1, -1, -1, 0, 0, 0, 0, 0, 0);
        due("digest() of a new object", new WordSquares().digest(), empty);
        BigInteger large = unbounded(numbers(new WordSquares(), "", 40));
        due("bits of the checksum without bound", large.bitLength() > 64 ? 1 : 0, 1);

        says(25, "if the list is not empty, search() for 0 to 4");
        WordSquares struck = with("ab");
        struck.strike(0);
        due("digest() with the word struck", struck.digest(),
                hash(0, 0, 0, 0, 0, 0, 0, 0, 0, -1, -1, -1, 0, 0, 0, 0, 1, 1));
        due("digest() of one word", with("ab").digest(),
                hash(2, 1, 3, 2, 1, 0, 97, 98, 1, -1, 0, 0, 0, 0, 0, 0, -1, -1, -1,
                        -1, 0, -1, 0, 0, 1, 1, 1, 0, 1, 1, 0, 0, 1, 0));

        says(25, "for each row board(), may(), and, if a square fits the board, sure() for each column; fitting()");
        WordSquares x = with(FOUR);
        x.put(0, 0);
        due("digest(), two fit", x.digest(), hash(2, 4, 8, 4, 4, 0, 105, 110, 1, -1, 2, 2, 1, 105, 116, 1, -1, 2, 2, 1,
                110, 111, 1, -1, 2, 2, 1, 116, 111, 1, -1, 2, 2, 1, 4, 2, 2, 0, 2, 0, 3, 1, 2, 1, 3, 0, 0, 0,
                0, 1, 105, 110, -1, 12, -1, 111, 2, 7, 0, 7, 0, 0, 4, 0, 1, 1, 0));
        x.put(1, 1);
        due("digest(), none fits", x.digest(), hash(2, 4, 8, 4, 4, 0, 105, 110, 1, -1, 2, 2, 1, 105, 116, 1, -1, 2, 2, 1,
                110, 111, 1, -1, 2, 2, 1, 116, 111, 1, -1, 2, 2, 1, 4, 2, 2, 0, 2, 0, 3, 1, 2, 1, 3, 0, 0, 0,
                0, 0, 1, 0, 0, 7, 0, 7, 0, 0, 4, 0, 2, 1, 0));

        x.put(1, 3);
        due("digest(), one fits", x.digest(), hash(2, 4, 8, 4, 4, 0, 105, 110, 1, -1, 2, 2, 1, 105, 116, 1, -1, 2, 2, 1,
                110, 111, 1, -1, 2, 2, 1, 116, 111, 1, -1, 2, 2, 1, 4, 2, 2, 0, 2, 0, 3, 1, 2, 1, 3, 0, 0, 0,
                0, 1, 105, 110, 3, 8, 116, 111, 1, 7, 0, 7, 0, 0, 4, 0, 2, 1, 0));

        says(25, "the codes of the characters of the text");
        String text = "~ ".repeat(30);
        due("digest() with 60 characters", typed(text).digest(),
                unbounded(numbers(typed(text), text, 40)).longValue());
        due("digest() with one character", typed(" ").digest(),
                hash(0, 0, 0, 0, 0, 0, 0, 0, 0, -1, -1, -1, 0, 32, 0, 1, 0, 0, 0));
        WordSquares blanked = typed(text);
        blanked.blank();
        due("digest() behind blank()", blanked.digest(), empty);
    }

    public static void main(String[] args) {
        calls();
        theList();
        numbering();
        theSquares();
        weightAndBoard();
        orderOfErrors();
        newObject();
        letterAndBlank();
        fault();
        words();
        strikeAndWeigh();
        about();
        word();
        signAndBegins();
        squaresAndRow();
        turnedHeaviestHeavy();
        putLiftBoard();
        fittingMaySure();
        search();
        count();
        anotherList();
        digest();
        closeSentence();
        System.out.println(SENTENCES.size() + " sentences, " + wrong + " faults");
        if (wrong != 0) {
            System.exit(1);
        }
    }
}
