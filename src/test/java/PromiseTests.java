/** For each promise of the document: ordinary inputs, the edges that it names, and wrong inputs. */
public final class PromiseTests {
    private static final int NONE = -1, UNKNOWN = -101, OUTSIDE = -102, STATE = -103, FULL = -104;
    private static final int[] FAR = {-1, Integer.MIN_VALUE, Integer.MAX_VALUE};
    private static final String TWELVE = "aa,ab,ac,ad,ae,af,ag,ah,ai,aj,ak,al";

    private static int wrong = 0;

    private static void due(int promise, String call, long got, long want) {
        if (got != want) {
            wrong++;
            System.out.println("promise " + promise + ": " + call + " answered " + got + ", due is " + want);
        }
    }

    private static void type(WordSquares x, String s) {
        for (int i = 0; i < s.length(); i++) {
            x.letter(s.charAt(i));
        }
    }

    private static WordSquares typed(String s) {
        WordSquares x = new WordSquares();
        type(x, s);
        return x;
    }

    private static WordSquares with(String list) {
        WordSquares x = typed(list);
        int added = x.words();
        if (added < 1) {
            throw new IllegalStateException(list + " was not taken: " + added);
        }
        return x;
    }

    private static long hash(long... numbers) {
        long h = 1579;
        for (long v : numbers) {
            h = 31 * h + v;
        }
        return h;
    }

    private static void newObject() {
        WordSquares x = new WordSquares();
        for (int what = 0; what <= 4; what++) {
            due(1, "count(" + what + ")", x.count(what), 0);
        }
        for (int what = 0; what <= 5; what++) {
            due(1, "about(" + what + ")", x.about(what), 0);
        }
        for (int kind = 0; kind <= 2; kind++) {
            due(1, "squares(" + kind + ")", x.squares(kind), 0);
            due(1, "heaviest(" + kind + ")", x.heaviest(kind), NONE);
        }
        due(1, "fault()", x.fault(), 0);
        due(1, "fitting()", x.fitting(), 0);
        due(1, "board(0)", x.board(0), UNKNOWN);
        due(1, "may(0)", x.may(0), UNKNOWN);
        due(1, "sure(0, 0)", x.sure(0, 0), UNKNOWN);
        due(1, "put(0, 0)", x.put(0, 0), UNKNOWN);
        due(1, "lift(0)", x.lift(0), UNKNOWN);
        due(1, "sign(0, 0)", x.sign(0, 0), UNKNOWN);
        due(1, "row(0, 0, 0)", x.row(0, 0, 0), UNKNOWN);
    }

    private static void letter() {
        WordSquares x = new WordSquares();
        due(2, "letter(31)", x.letter(31), OUTSIDE);
        due(2, "letter(127)", x.letter(127), OUTSIDE);
        for (int code : FAR) {
            due(2, "letter(" + code + ")", x.letter(code), OUTSIDE);
        }
        due(2, "letter(32)", x.letter(32), 1);
        due(2, "letter(126)", x.letter(126), 2);
        for (int n = 3; n <= 60; n++) {
            due(2, "letter, the " + n + "th", x.letter('a'), n);
        }
        due(2, "letter in a full text", x.letter('a'), FULL);
        due(2, "letter(127) in a full text", x.letter(127), OUTSIDE);
        due(2, "count(1) of a full text", x.count(1), 60);
    }

    private static void blank() {
        WordSquares x = new WordSquares();
        due(3, "blank() of nothing", x.blank(), 0);
        type(x, "ab,c");
        due(3, "blank()", x.blank(), 4);
        due(3, "blank() again", x.blank(), 0);
        due(3, "letter after blank()", x.letter('q'), 1);
    }

    private static void faultIs(String s, int want) {
        due(4, "fault() of '" + s + "'", typed(s).fault(), want);
    }

    private static void fault() {
        faultIs("", 0);
        faultIs("a", 1);
        faultIs("ab", 2);
        faultIs("abc", 3);
        faultIs("abcd", 4);
        faultIs("abcde", 4);
        faultIs("ab,", 3);
        faultIs("ab,c", 4);
        faultIs(",", 0);
        faultIs("a,", 1);
        faultIs("ab,,", 3);
        faultIs("ab,c,", 4);
        faultIs("ab,cde", 5);
        faultIs("abcd,efg,", 8);
        faultIs("abcd,efghi", 9);
        faultIs("A", 0);
        faultIs("a`", 1);
        faultIs("a{", 1);
        faultIs("ab cd", 2);
        faultIs(" ab", 0);
        faultIs("ab,ab", 4);
        faultIs("ab,a", 4);
        faultIs("abc,ab", 6);
        faultIs("abc,abd,abc", 10);
        faultIs("abc,abd,abd,x", 10);
        faultIs("abc,bcd,cab", 11);
        faultIs("aaaa,aaab,aaaa", 13);
        faultIs(TWELVE, 35);
        faultIs(TWELVE + ",", 35);
        faultIs(TWELVE + ",am", 35);
        faultIs("aaaa,aaab,aaac,aaad,aaae,aaaf,aaag,aaah,aaai,aaaj,aaak,aaal", 59);
        faultIs("aaaa,aaab,aaac,aaad,aaae,aaaf,aaag,aaah,aaai,aaaj,aaak,aaal,", 59);
        WordSquares x = with("ab,cd");
        type(x, "ab,cde");
        due(4, "fault(), words of the list do not matter", x.fault(), 5);
        x.blank();
        type(x, "abc,cd");
        due(4, "fault(), the length of the list does not matter", x.fault(), 6);
    }

    private static void wordsIs(WordSquares x, String s, int want) {
        x.blank();
        type(x, s);
        due(5, "words() with '" + s + "'", x.words(), want);
        due(5, "length of the text after words() with '" + s + "'", x.count(1), want > 0 ? 0 : s.length());
    }

    private static void words() {
        WordSquares x = new WordSquares();
        for (String s : new String[] {"", "a", "abcde", "ab,", "ab,c", "ab,ab", "ab,cde", "ab, cd", "AB", TWELVE + ","}) {
            wordsIs(x, s, STATE);
        }
        due(5, "count(3)", x.count(3), 0);
        wordsIs(x, "no,in", 2);
        due(5, "put(1, 1)", x.put(1, 1), NONE);
        wordsIs(x, "one", STATE);
        wordsIs(x, "no", STATE);
        wordsIs(x, "at,in", STATE);
        wordsIs(x, "ba,bb,bc,bd,be,bf,bg,bh,bi,bj,bk", FULL);
        wordsIs(x, "ba,bb,bc,bd,be,bf,bg,bh,bi,bj,in", STATE);
        due(5, "words after errors", x.count(0), 2);
        due(5, "board(1) after errors", x.board(1), 1);
        due(5, "weigh(0, 7)", x.weigh(0, 7), 1);
        wordsIs(x, "at", 1);
        due(5, "board(1) after words()", x.board(1), NONE);
        due(5, "count(2) after words()", x.count(2), 0);
        due(5, "the new word is the first", x.sign(0, 0), 'a');
        due(5, "weight of the new word", x.word(0, 0), 1);
        due(5, "weight of the old word", x.word(1, 0), 7);
        wordsIs(x, "zz,aa,mm,bb,yy,cc,xx,dd,ee", 9);
        due(5, "count(0) of a full list", x.count(0), 12);
        wordsIs(x, "qq", FULL);
        wordsIs(x, "zz", STATE);
        wordsIs(x, "zzz", STATE);
        due(5, "count(3)", x.count(3), 3);
        String order = "aaatbbccddeeinmmnoxxyyzz";
        for (int i = 0; i < order.length(); i++) {
            due(5, "sign in order", x.sign(i / 2, i % 2), order.charAt(i));
        }
    }

    private static void strike() {
        WordSquares x = with("ab,ba,cc");
        x.weigh(0, 5);
        x.weigh(2, 9);
        x.put(0, 0);
        due(6, "strike(3)", x.strike(3), UNKNOWN);
        for (int w : FAR) {
            due(6, "strike(" + w + ")", x.strike(w), UNKNOWN);
        }
        due(6, "board(0) after errors", x.board(0), 0);
        type(x, "zz");
        due(6, "strike(1)", x.strike(1), 2);
        due(6, "board(0) after strike", x.board(0), NONE);
        due(6, "the text stays", x.count(1), 2);
        due(6, "weight that stays", x.word(0, 0), 5);
        due(6, "weight that moves", x.word(1, 0), 9);
        due(6, "sign that moves", x.sign(1, 1), 'c');
        due(6, "squares(0) after strike", x.squares(0), 1);
        due(6, "strike(1)", x.strike(1), 1);
        due(6, "strike(0)", x.strike(0), 0);
        due(6, "strike(0) of nothing", x.strike(0), UNKNOWN);
        due(6, "count(4)", x.count(4), 3);
        due(6, "about(0) of nothing", x.about(0), 0);
        x.blank();
        type(x, "abcd");
        due(6, "words() of another length when the list is empty", x.words(), 1);
        due(6, "about(0)", x.about(0), 4);
        due(6, "a struck word's weight is not kept", x.word(0, 0), 1);
    }

    private static void weigh() {
        WordSquares x = with("ab,ba");
        due(7, "weigh(0, 9)", x.weigh(0, 9), 1);
        due(7, "weigh(0, 1)", x.weigh(0, 1), 9);
        due(7, "weigh(1, 0)", x.weigh(1, 0), OUTSIDE);
        due(7, "weigh(1, 10)", x.weigh(1, 10), OUTSIDE);
        due(7, "weigh(2, 0)", x.weigh(2, 0), UNKNOWN);
        for (int far : FAR) {
            due(7, "weigh(" + far + ", 1)", x.weigh(far, 1), UNKNOWN);
            due(7, "weigh(1, " + far + ")", x.weigh(1, far), OUTSIDE);
        }
        due(7, "weigh(1, 4)", x.weigh(1, 4), 1);
        due(7, "weigh(1, 4)", x.weigh(1, 4), 4);
        x.put(0, 1);
        x.weigh(0, 3);
        due(7, "the board stays", x.board(0), 1);
    }

    private static void about() {
        // prefixes: the empty one, a, n, o, aa, no, on, oo
        WordSquares x = with("on,no,aa,oo");
        x.weigh(3, 6);
        long[] want = {2, 4, 8, 3, 9, 4};
        for (int what = 0; what < want.length; what++) {
            due(8, "about(" + what + ")", x.about(what), want[what]);
        }
        due(8, "about(6)", x.about(6), OUTSIDE);
        for (int what : FAR) {
            due(8, "about(" + what + ")", x.about(what), OUTSIDE);
        }
        WordSquares y = with("abcd,abce,abzz,dcba");
        // empty, a, d, ab, dc, abc, abz, dcb, and four words
        due(8, "about(2)", y.about(2), 12);
        due(8, "about(3)", y.about(3), 6);
        due(8, "about(5)", y.about(5), 2);
    }

    private static void word() {
        WordSquares x = with("ab,ba,cc");
        // squares: ab/ba, ba/ab, cc/cc, all symmetric
        long[][] want = {{1, 1, 2, 2, 2}, {1, 0, 2, 2, 2}, {1, 2, 2, 2, 1}};
        for (int w = 0; w < 3; w++) {
            for (int what = 0; what < 5; what++) {
                due(9, "word(" + w + ", " + what + ")", x.word(w, what), want[w][what]);
            }
            due(9, "word(" + w + ", 5)", x.word(w, 5), OUTSIDE);
        }
        due(9, "word(3, 5)", x.word(3, 5), UNKNOWN);
        for (int far : FAR) {
            due(9, "word(" + far + ", 0)", x.word(far, 0), UNKNOWN);
            due(9, "word(0, " + far + ")", x.word(0, far), OUTSIDE);
        }
        due(9, "word(0, 1) without its reversal", with("ab").word(0, 1), NONE);
        // the squares are listed in squares() below; no stands in two rows, one of them of a symmetric square
        WordSquares y = with("in,to,it,no");
        due(9, "rows of no", y.word(2, 2), 2);
        due(9, "columns of no", y.word(2, 3), 2);
        due(9, "symmetric with no", y.word(2, 4), 1);
        // aa, aa/ab, aa/ba, ab/aa, ab/ba, ba/aa, ba/ab: aa stands twice in the first, which counts once as a square
        WordSquares z = with("aa,ab,ba");
        due(9, "rows of aa", z.word(0, 2), 6);
        due(9, "columns of aa", z.word(0, 3), 6);
        due(9, "symmetric with aa", z.word(0, 4), 3);
    }

    private static void sign() {
        WordSquares x = with("xyz,abc");
        due(10, "sign(0, 0)", x.sign(0, 0), 'a');
        due(10, "sign(0, 2)", x.sign(0, 2), 'c');
        due(10, "sign(1, 2)", x.sign(1, 2), 'z');
        due(10, "sign(0, 3)", x.sign(0, 3), UNKNOWN);
        due(10, "sign(2, 0)", x.sign(2, 0), UNKNOWN);
        for (int far : FAR) {
            due(10, "sign(" + far + ", 0)", x.sign(far, 0), UNKNOWN);
            due(10, "sign(0, " + far + ")", x.sign(0, far), UNKNOWN);
        }
    }

    private static void begins() {
        WordSquares x = with("abc,abd,acd,bbc");
        due(11, "begins(0, 0)", x.begins(0, 0), 4);
        due(11, "begins(0, 1)", x.begins(0, 1), 3);
        due(11, "begins(0, 2)", x.begins(0, 2), 2);
        due(11, "begins(0, 3)", x.begins(0, 3), 1);
        due(11, "begins(3, 1)", x.begins(3, 1), 1);
        due(11, "begins(0, 4)", x.begins(0, 4), OUTSIDE);
        due(11, "begins(4, 4)", x.begins(4, 4), UNKNOWN);
        for (int far : FAR) {
            due(11, "begins(0, " + far + ")", x.begins(0, far), OUTSIDE);
            due(11, "begins(" + far + ", 0)", x.begins(far, 0), UNKNOWN);
        }
    }

    private static void squares() {
        WordSquares x = with("in,to,it,no");
        // in/no and it/to are symmetric; in/to has the columns it, no; it/no has the columns in, to
        due(12, "squares(0)", x.squares(0), 4);
        due(12, "squares(1)", x.squares(1), 2);
        due(12, "squares(2)", x.squares(2), 2);
        due(12, "squares(3)", x.squares(3), OUTSIDE);
        for (int far : FAR) {
            due(12, "squares(" + far + ")", x.squares(far), OUTSIDE);
        }
        due(12, "squares of aa", with("aa").squares(0), 1);
        due(12, "squares(2) of aa", with("aa").squares(2), 0);
        due(12, "squares of ab", with("ab").squares(0), 0);
        due(12, "squares of aaaa", with("aaaa").squares(1), 1);
        // ab/aa and aa/ba are not symmetric, and repeat words; ab/ab and ba/ba have a column bb
        WordSquares y = with("aa,ab,ba");
        due(12, "squares(0) of aa,ab,ba", y.squares(0), 7);
        due(12, "squares(1) of aa,ab,ba", y.squares(1), 5);
        due(12, "squares(2) of aa,ab,ba", y.squares(2), 0);
    }

    private static void mostSquares() {
        WordSquares x = with("aaaa,aaab,aaba,aabb,abaa,abab,abba,abbb,baaa,baab,baba,babb");
        int n = x.squares(0);
        due(12, "squares(0) of a list with many", n > 5000 ? 1 : 0, 1);
        due(13, "the last of many", x.row(0, n - 1, 3) >= 0 ? 1 : 0, 1);
        due(13, "behind the last of many", x.row(0, n, 0), UNKNOWN);
        due(14, "turned twice, of many", x.turned(x.turned(n / 3)), n / 3);
        due(14, "turned twice, the last", x.turned(x.turned(n - 1)), n - 1);
    }

    private static void row() {
        WordSquares x = with("aa,ab,ba");
        int[][] want = {{0, 0}, {0, 1}, {0, 2}, {1, 0}, {1, 2}, {2, 0}, {2, 1}};
        for (int k = 0; k < want.length; k++) {
            due(13, "row(0, " + k + ", 0)", x.row(0, k, 0), want[k][0]);
            due(13, "row(0, " + k + ", 1)", x.row(0, k, 1), want[k][1]);
        }
        int[][] symmetric = {{0, 0}, {0, 1}, {1, 2}, {2, 0}, {2, 1}};
        for (int k = 0; k < symmetric.length; k++) {
            due(13, "row(1, " + k + ", 0)", x.row(1, k, 0), symmetric[k][0]);
            due(13, "row(1, " + k + ", 1)", x.row(1, k, 1), symmetric[k][1]);
        }
        WordSquares z = with("in,to,it,no");
        due(13, "row(2, 0, 1)", z.row(2, 0, 1), 3);
        due(13, "row(2, 1, 1)", z.row(2, 1, 1), 2);
        due(13, "row(2, 2, 1)", z.row(2, 2, 1), UNKNOWN);
        WordSquares y = with("ab,ba,cc");
        due(13, "row(1, 2, 1)", y.row(1, 2, 1), 2);
        due(13, "row(1, 1, 0)", y.row(1, 1, 0), 1);
        due(13, "row(0, 3, 0)", y.row(0, 3, 0), UNKNOWN);
        due(13, "row(2, 0, 0)", y.row(2, 0, 0), UNKNOWN);
        due(13, "row(0, 0, 2)", y.row(0, 0, 2), UNKNOWN);
        due(13, "row(3, 9, 9)", y.row(3, 9, 9), OUTSIDE);
        for (int far : FAR) {
            due(13, "row(" + far + ", 0, 0)", y.row(far, 0, 0), OUTSIDE);
            due(13, "row(0, " + far + ", 0)", y.row(0, far, 0), UNKNOWN);
            due(13, "row(0, 0, " + far + ")", y.row(0, 0, far), UNKNOWN);
        }
    }

    private static void turned() {
        WordSquares x = with("in,to,it,no");
        due(14, "turned(0)", x.turned(0), 0);
        due(14, "turned(1)", x.turned(1), 2);
        due(14, "turned(2)", x.turned(2), 1);
        due(14, "turned(3)", x.turned(3), 3);
        due(14, "turned(4)", x.turned(4), UNKNOWN);
        for (int far : FAR) {
            due(14, "turned(" + far + ")", x.turned(far), UNKNOWN);
        }
        due(14, "turned(0) of a symmetric one", with("ab,ba").turned(1), 1);
        due(14, "turned(0) of nothing", new WordSquares().turned(0), UNKNOWN);
    }

    private static void heaviest() {
        WordSquares x = with("ab,ba,cc");
        due(15, "heaviest(0) of equal ones", x.heaviest(0), 0);
        x.weigh(2, 2);
        due(15, "heaviest(0) after weigh", x.heaviest(0), 2);
        due(15, "heaviest(1) after weigh", x.heaviest(1), 2);
        x.weigh(1, 3);
        due(15, "heaviest(0), 3 + 1 against 2 + 2", x.heaviest(0), 0);
        due(15, "heaviest(2)", x.heaviest(2), NONE);
        due(15, "heaviest(3)", x.heaviest(3), OUTSIDE);
        for (int far : FAR) {
            due(15, "heaviest(" + far + ")", x.heaviest(far), OUTSIDE);
        }
        x.strike(0);
        due(15, "heaviest(0) after strike", x.heaviest(0), 0);
        x.strike(1);
        due(15, "heaviest(0) without squares", x.heaviest(0), NONE);
    }

    private static void heavy() {
        WordSquares x = with("in,to,it,no");
        due(16, "heavy(0)", x.heavy(0), 4);
        x.weigh(0, 9);
        x.weigh(1, 2);
        x.weigh(2, 3);
        x.weigh(3, 4);
        due(16, "heavy(0) with weights", x.heavy(0), 24);
        due(16, "heavy(1) with weights", x.heavy(1), 18);
        due(16, "heavy(2) with weights", x.heavy(2), 18);
        due(16, "heavy(3) with weights", x.heavy(3), 12);
        due(16, "heavy(4)", x.heavy(4), UNKNOWN);
        for (int far : FAR) {
            due(16, "heavy(" + far + ")", x.heavy(far), UNKNOWN);
        }
        WordSquares y = with("aaaa");
        y.weigh(0, 9);
        due(16, "heavy(0) of aaaa", y.heavy(0), 72);
    }

    private static void board() {
        WordSquares x = with("aa,ab,ba");
        due(19, "board(0)", x.board(0), NONE);
        due(18, "lift(0) of nothing", x.lift(0), STATE);
        due(17, "put(0, 2)", x.put(0, 2), NONE);
        due(17, "put(0, 1)", x.put(0, 1), 2);
        due(17, "put(1, 1)", x.put(1, 1), NONE);
        due(17, "put(2, 0)", x.put(2, 0), UNKNOWN);
        due(17, "put(0, 3)", x.put(0, 3), UNKNOWN);
        due(19, "board(0)", x.board(0), 1);
        due(19, "board(2)", x.board(2), UNKNOWN);
        due(18, "lift(2)", x.lift(2), UNKNOWN);
        for (int far : FAR) {
            due(17, "put(" + far + ", 0)", x.put(far, 0), UNKNOWN);
            due(17, "put(0, " + far + ")", x.put(0, far), UNKNOWN);
            due(18, "lift(" + far + ")", x.lift(far), UNKNOWN);
            due(19, "board(" + far + ")", x.board(far), UNKNOWN);
        }
        due(24, "count(2)", x.count(2), 2);
        due(18, "lift(0)", x.lift(0), 1);
        due(18, "lift(0) again", x.lift(0), STATE);
        due(19, "board(0) after lift", x.board(0), NONE);
        due(19, "board(1) after lift(0)", x.board(1), 1);
        due(24, "count(2)", x.count(2), 1);
    }

    private static void fittingMaySure() {
        WordSquares x = with("in,to,it,no");
        due(20, "fitting()", x.fitting(), 4);
        due(21, "may(0)", x.may(0), 3);
        due(21, "may(1)", x.may(1), 12);
        due(22, "sure(0, 0)", x.sure(0, 0), 'i');
        due(22, "sure(0, 1)", x.sure(0, 1), NONE);
        due(22, "sure(1, 0)", x.sure(1, 0), NONE);
        due(22, "sure(1, 1)", x.sure(1, 1), 'o');
        x.put(1, 3);
        due(20, "fitting() with to below", x.fitting(), 2);
        due(21, "may(0) with to below", x.may(0), 3);
        due(21, "may(1) with to below", x.may(1), 8);
        due(22, "sure(0, 1) with to below", x.sure(0, 1), NONE);
        due(22, "sure(1, 0) with to below", x.sure(1, 0), 't');
        x.put(0, 0);
        due(20, "fitting() with in, to", x.fitting(), 1);
        due(21, "may(0) with in, to", x.may(0), 1);
        due(22, "sure(0, 1) with in, to", x.sure(0, 1), 'n');
        x.put(0, 3);
        due(20, "fitting() with to, to", x.fitting(), 0);
        due(21, "may(0) with to, to", x.may(0), 0);
        due(22, "sure(0, 1) with to, to", x.sure(0, 1), STATE);
        due(22, "sure(2, 0) with to, to", x.sure(2, 0), UNKNOWN);
        due(22, "sure(0, 2) with to, to", x.sure(0, 2), UNKNOWN);
        x.lift(0);
        due(20, "fitting() after lift", x.fitting(), 2);
        due(21, "may(2)", x.may(2), UNKNOWN);
        for (int far : FAR) {
            due(21, "may(" + far + ")", x.may(far), UNKNOWN);
            due(22, "sure(" + far + ", 0)", x.sure(far, 0), UNKNOWN);
            due(22, "sure(0, " + far + ")", x.sure(0, far), UNKNOWN);
        }
        x.strike(0);
        due(20, "fitting() after strike", x.fitting(), 1);
        due(21, "may(0) after strike", x.may(0), 1);
        due(21, "may(1) after strike", x.may(1), 4);
    }

    private static void searchIs(String list, int... want) {
        WordSquares x = with(list);
        for (int what = 0; what < 5; what++) {
            due(23, "search(" + what + ") of " + list, x.search(what), want[what]);
        }
    }

    private static void search() {
        searchIs("aa", 3, 0, 3, 0, 0);
        // no row can stand below 'ab', nor 'ab' itself: only the state without rows, and it is dead
        searchIs("ab", 1, 1, 1, 0, 1);
        // aab is dead; bab is alike to it, as a and b both go on with ab alone
        searchIs("aab,bab", 3, 3, 3, 1, 2);
        // abc, abc/baa, the square abc/baa/caa, the dead baa, and caa that is alike to it
        searchIs("abc,baa,caa", 6, 2, 6, 1, 1);
        searchIs("in,to,it,no", 7, 0, 7, 0, 0);
        WordSquares x = new WordSquares();
        due(23, "search(0) of nothing", x.search(0), STATE);
        due(23, "search(5) of nothing", x.search(5), OUTSIDE);
        for (int far : FAR) {
            due(23, "search(" + far + ")", x.search(far), OUTSIDE);
            due(23, "search(" + far + ")", with("ab").search(far), OUTSIDE);
        }
    }

    private static void count() {
        WordSquares x = with("ab,ba");
        type(x, "cc");
        x.put(0, 0);
        x.put(1, 0);
        long[] want = {2, 2, 2, 1, 0};
        for (int what = 0; what < 5; what++) {
            due(24, "count(" + what + ")", x.count(what), want[what]);
        }
        x.words();
        x.strike(0);
        x.strike(0);
        long[] later = {1, 0, 0, 2, 2};
        for (int what = 0; what < 5; what++) {
            due(24, "count(" + what + ") later", x.count(what), later[what]);
        }
        due(24, "count(5)", x.count(5), OUTSIDE);
        for (int far : FAR) {
            due(24, "count(" + far + ")", x.count(far), OUTSIDE);
        }
    }

    private static void digest() {
        WordSquares x = new WordSquares();
        due(25, "digest() of a new object", x.digest(),
                hash(0, 0, 0, 0, 0, 0, 0, 0, 0, -1, -1, -1, 0, 0, 0, 0, 0, 0));
        type(x, "aa");
        due(25, "digest() with a text", x.digest(),
                hash(0, 0, 0, 0, 0, 0, 0, 0, 0, -1, -1, -1, 0, 97, 97, 0, 2, 0, 0, 0));
        x.words();
        due(25, "digest() of aa", x.digest(),
                hash(2, 1, 3, 1, 1, 1, 97, 97, 1, 0, 2, 2, 1, 1, 1, 0, 0, 0, 0, 0, -1,
                        -1, 1, 97, 97, -1, 1, 97, 97, 1, 3, 0, 3, 0, 0, 1, 0, 0, 1, 0));
        WordSquares y = with("ab");
        y.put(0, 0);
        due(25, "digest() without squares", y.digest(),
                hash(2, 1, 3, 2, 1, 0, 97, 98, 1, -1, 0, 0, 0, 0, 0, 0, -1, -1, -1,
                        0, 0, -1, 0, 0, 1, 1, 1, 0, 1, 1, 0, 1, 1, 0));
        long before = y.digest();
        y.letter(5);
        y.words();
        y.strike(7);
        y.weigh(0, 10);
        y.put(0, 1);
        y.lift(1);
        due(25, "digest() after errors", y.digest(), before);
    }

    public static void main(String[] args) {
        newObject();
        letter();
        blank();
        fault();
        words();
        strike();
        weigh();
        about();
        word();
        sign();
        begins();
        squares();
        mostSquares();
        row();
        turned();
        heaviest();
        heavy();
        board();
        fittingMaySure();
        search();
        count();
        digest();
        System.out.println(wrong == 0 ? "all promises hold" : wrong + " answers are not as due");
        if (wrong != 0) {
            System.exit(1);
        }
    }
}
