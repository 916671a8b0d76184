import java.util.ArrayList;
import java.util.HashSet;
import java.util.List;
import java.util.Random;
import java.util.Set;
import java.util.TreeMap;
import java.util.TreeSet;

/** Runs of chosen-at-random calls, each answer compared with that of a slow model that follows the document's words. */
public final class ModelRuns {
    private static final int NONE = -1, UNKNOWN = -101, OUTSIDE = -102, STATE = -103, FULL = -104;
    private static int wrong = 0;
    private static long calls = 0;

    /** The document told once more, with strings and sets. */
    private static final class Model {
        TreeMap<String, Integer> weights = new TreeMap<>();
        List<String> list = new ArrayList<>();
        Integer[] given = new Integer[4];
        String text = "";
        int additions = 0, removals = 0;
        List<int[]> found = null;
        int[] searched = null;

        int length() { return list.isEmpty() ? 0 : list.get(0).length(); }
        boolean has(int w) { return w >= 0 && w < list.size(); }
        boolean place(int p) { return p >= 0 && p < length(); }

        void changed() {
            list = new ArrayList<>(weights.keySet());
            given = new Integer[4];
            found = null;
            searched = null;
        }

        int letter(int code) {
            if (code < 32 || code > 126) return OUTSIDE;
            if (text.length() == 60) return FULL;
            text += (char) code;
            return text.length();
        }

        int blank() { int n = text.length(); text = ""; return n; }

        static boolean isList(String s) {
            String[] parts = s.split(",", -1);
            if (parts.length > 12) return false;
            Set<String> seen = new HashSet<>();
            for (String p : parts) {
                if (!p.matches("[a-z]{2,4}") || p.length() != parts[0].length() || !seen.add(p)) return false;
            }
            return true;
        }

        /** Whether a list begins with s: tries what could complete the last word. */
        static boolean isBeginning(String s) {
            if (s.isEmpty() || isList(s)) return true;
            int comma = s.lastIndexOf(',');
            String last = s.substring(comma + 1);
            for (int more = 1; more + last.length() <= 4; more++) {
                int tries = (int) Math.pow(26, Math.min(more, 2));
                for (int t = 0; t < tries; t++) {
                    StringBuilder b = new StringBuilder(s);
                    int v = t;
                    for (int i = 0; i < more; i++) { b.append((char) ('a' + v % 26)); v /= 26; }
                    if (isList(b.toString())) return true;
                }
            }
            return false;
        }

        int fault() {
            for (int i = 0; i < text.length(); i++) {
                if (!isBeginning(text.substring(0, i + 1))) return i;
            }
            return text.length();
        }

        int words() {
            if (!isList(text)) return STATE;
            String[] parts = text.split(",");
            if (!list.isEmpty() && parts[0].length() != length()) return STATE;
            for (String p : parts) if (weights.containsKey(p)) return STATE;
            if (list.size() + parts.length > 12) return FULL;
            for (String p : parts) weights.put(p, 1);
            text = "";
            additions++;
            changed();
            return parts.length;
        }

        int strike(int w) {
            if (!has(w)) return UNKNOWN;
            weights.remove(list.get(w));
            removals++;
            changed();
            return list.size();
        }

        int weigh(int w, int v) {
            if (!has(w)) return UNKNOWN;
            if (v < 1 || v > 9) return OUTSIDE;
            return weights.put(list.get(w), v);
        }

        int about(int what) {
            Set<String> set = new HashSet<>();
            int n = 0;
            switch (what) {
                case 0: return length();
                case 1: return list.size();
                case 2:
                    for (String s : list) for (int i = 0; i <= s.length(); i++) set.add(s.substring(0, i));
                    return set.size();
                case 3:
                    for (String s : list) for (int i = 0; i < s.length(); i++) set.add(s.substring(i, i + 1));
                    return set.size();
                case 4:
                    for (int v : weights.values()) n += v;
                    return n;
                case 5:
                    for (String s : list) if (list.contains(reversed(s))) n++;
                    return n;
                default: return OUTSIDE;
            }
        }

        static String reversed(String s) { return new StringBuilder(s).reverse().toString(); }

        String column(int[] rows, int c) {
            StringBuilder b = new StringBuilder();
            for (int r : rows) b.append(list.get(r).charAt(c));
            return b.toString();
        }

        int[] columns(int[] rows) {
            int[] result = new int[rows.length];
            for (int c = 0; c < rows.length; c++) result[c] = list.indexOf(column(rows, c));
            return result;
        }

        List<int[]> all() {
            if (found == null) {
                found = new ArrayList<>();
                if (!list.isEmpty()) {
                    int total = (int) Math.pow(list.size(), length());
                    for (int t = 0; t < total; t++) {
                        int[] rows = new int[length()];
                        int v = t;
                        for (int i = length() - 1; i >= 0; i--) { rows[i] = v % list.size(); v /= list.size(); }
                        boolean good = true;
                        for (int c = 0; c < length() && good; c++) good = weights.containsKey(column(rows, c));
                        if (good) found.add(rows);
                    }
                }
            }
            return found;
        }

        List<int[]> kind(int kind) {
            List<int[]> result = new ArrayList<>();
            for (int[] rows : all()) {
                int[] columns = columns(rows);
                Set<Integer> different = new HashSet<>();
                boolean symmetric = true;
                for (int i = 0; i < rows.length; i++) {
                    different.add(rows[i]);
                    different.add(columns[i]);
                    symmetric &= rows[i] == columns[i];
                }
                if (kind == 0 || (kind == 1 && symmetric) || (kind == 2 && different.size() == 2 * rows.length)) {
                    result.add(rows);
                }
            }
            return result;
        }

        int word(int w, int what) {
            if (!has(w)) return UNKNOWN;
            int n = 0;
            switch (what) {
                case 0: return weights.get(list.get(w));
                case 1: return list.indexOf(reversed(list.get(w)));
                case 2:
                    for (int[] rows : all()) for (int r : rows) if (r == w) n++;
                    return n;
                case 3:
                    for (int[] rows : all()) for (int c : columns(rows)) if (c == w) n++;
                    return n;
                case 4:
                    for (int[] rows : kind(1)) {
                        boolean there = false;
                        for (int r : rows) there |= r == w;
                        if (there) n++;
                    }
                    return n;
                default: return OUTSIDE;
            }
        }

        int sign(int w, int p) { return has(w) && place(p) ? list.get(w).charAt(p) : UNKNOWN; }

        int begins(int w, int many) {
            if (!has(w)) return UNKNOWN;
            if (many < 0 || many > length()) return OUTSIDE;
            int n = 0;
            for (String s : list) if (s.startsWith(list.get(w).substring(0, many))) n++;
            return n;
        }

        int squares(int kind) { return kind < 0 || kind > 2 ? OUTSIDE : kind(kind).size(); }

        int row(int kind, int square, int row) {
            if (kind < 0 || kind > 2) return OUTSIDE;
            List<int[]> k = kind(kind);
            if (square < 0 || square >= k.size() || !place(row)) return UNKNOWN;
            return k.get(square)[row];
        }

        int turned(int square) {
            if (square < 0 || square >= all().size()) return UNKNOWN;
            int[] columns = columns(all().get(square));
            for (int i = 0; i < all().size(); i++) if (java.util.Arrays.equals(all().get(i), columns)) return i;
            throw new IllegalStateException();
        }

        int weight(int[] rows) {
            int n = 0;
            for (int r : rows) n += weights.get(list.get(r));
            for (int c : columns(rows)) n += weights.get(list.get(c));
            return n;
        }

        int heaviest(int kind) {
            if (kind < 0 || kind > 2) return OUTSIDE;
            List<int[]> k = kind(kind);
            int best = NONE;
            for (int i = 0; i < k.size(); i++) {
                if (best == NONE || weight(k.get(i)) > weight(k.get(best))) best = i;
            }
            return best;
        }

        int heavy(int square) {
            return square < 0 || square >= all().size() ? UNKNOWN : weight(all().get(square));
        }

        int put(int row, int w) {
            if (!place(row) || !has(w)) return UNKNOWN;
            int before = board(row);
            given[row] = w;
            return before;
        }

        int lift(int row) {
            if (!place(row)) return UNKNOWN;
            if (given[row] == null) return STATE;
            int before = given[row];
            given[row] = null;
            return before;
        }

        int board(int row) { return !place(row) ? UNKNOWN : given[row] == null ? NONE : given[row]; }

        List<int[]> fit() {
            List<int[]> result = new ArrayList<>();
            for (int[] rows : all()) {
                boolean good = true;
                for (int i = 0; i < rows.length; i++) good &= given[i] == null || given[i] == rows[i];
                if (good) result.add(rows);
            }
            return result;
        }

        int fitting() { return fit().size(); }

        int may(int row) {
            if (!place(row)) return UNKNOWN;
            int mask = 0;
            for (int[] rows : fit()) mask |= 1 << rows[row];
            return mask;
        }

        int sure(int row, int column) {
            if (!place(row) || !place(column)) return UNKNOWN;
            Set<Character> letters = new HashSet<>();
            for (int[] rows : fit()) letters.add(list.get(rows[row]).charAt(column));
            if (letters.isEmpty()) return STATE;
            return letters.size() == 1 ? letters.iterator().next() : NONE;
        }

        int search(int what) {
            if (what < 0 || what > 4) return OUTSIDE;
            if (list.isEmpty()) return STATE;
            if (searched == null) {
                searched = new int[5];
                plain(new ArrayList<>());
                Set<String> memory = new HashSet<>();
                remembering(new ArrayList<>(), memory);
                searched[4] = memory.size();
            }
            return searched[what];
        }

        String soFar(List<String> rows, int c) {
            StringBuilder b = new StringBuilder();
            for (String s : rows) b.append(s.charAt(c));
            return b.toString();
        }

        boolean isPrefix(String p) {
            for (String s : list) if (s.startsWith(p)) return true;
            return false;
        }

        boolean isState(List<String> rows) {
            for (int c = 0; c < length(); c++) if (!isPrefix(soFar(rows, c))) return false;
            return true;
        }

        String likeness(List<String> rows) {
            StringBuilder b = new StringBuilder();
            b.append(rows.size());
            for (int c = 0; c < length(); c++) {
                TreeSet<String> rests = new TreeSet<>();
                String p = soFar(rows, c);
                for (String s : list) if (s.startsWith(p)) rests.add(s.substring(p.length()));
                b.append(rests);
            }
            return b.toString();
        }

        boolean plain(List<String> rows) {
            searched[0]++;
            if (rows.size() == length()) return true;
            boolean any = false;
            for (String s : list) {
                rows.add(s);
                if (isState(rows)) any |= plain(rows);
                rows.remove(rows.size() - 1);
            }
            if (!any) searched[1]++;
            return any;
        }

        boolean remembering(List<String> rows, Set<String> memory) {
            searched[2]++;
            if (rows.size() == length()) return true;
            if (memory.contains(likeness(rows))) { searched[3]++; return false; }
            boolean any = false;
            for (String s : list) {
                rows.add(s);
                if (isState(rows)) any |= remembering(rows, memory);
                rows.remove(rows.size() - 1);
            }
            if (!any) memory.add(likeness(rows));
            return any;
        }

        int count(int what) {
            int n = 0;
            switch (what) {
                case 0: return list.size();
                case 1: return text.length();
                case 2: for (Integer g : given) if (g != null) n++; return n;
                case 3: return additions;
                case 4: return removals;
                default: return OUTSIDE;
            }
        }

        long digest() {
            List<Integer> v = new ArrayList<>();
            for (int i = 0; i < 6; i++) v.add(about(i));
            for (int w = 0; w < list.size(); w++) {
                for (char c : list.get(w).toCharArray()) v.add((int) c);
                for (int i = 0; i < 5; i++) v.add(word(w, i));
            }
            for (int i = 0; i < 3; i++) v.add(squares(i));
            for (int k = 0; k < 40 && k < all().size(); k++) for (int r : all().get(k)) v.add(r);
            for (int i = 0; i < 3; i++) v.add(heaviest(i));
            for (int r = 0; r < length(); r++) {
                v.add(board(r));
                v.add(may(r));
                if (fitting() > 0) for (int c = 0; c < length(); c++) v.add(sure(r, c));
            }
            v.add(fitting());
            if (!list.isEmpty()) for (int i = 0; i < 5; i++) v.add(search(i));
            for (char c : text.toCharArray()) v.add((int) c);
            for (int i = 0; i < 5; i++) v.add(count(i));
            long h = 1579;
            for (int n : v) h = 31 * h + n;
            return h;
        }
    }

    private static final class Run {
        final long seed;
        final Random random;
        final WordSquares x = new WordSquares();
        final Model m = new Model();
        final StringBuilder told = new StringBuilder();

        Run(long seed) { this.seed = seed; this.random = new Random(seed); }

        void due(String call, long got, long want) {
            calls++;
            told.append(call).append(" = ").append(got).append("; ");
            if (got != want) {
                wrong++;
                if (wrong <= 10) {
                    System.out.println("run " + seed + ": " + call + " answered " + got + ", due is " + want
                            + " with " + m.weights + " text '" + m.text + "'");
                }
            }
        }

        int near(int bound) {
            int r = random.nextInt(20);
            if (r == 0) return -1 - random.nextInt(3);
            if (r == 1) return bound + random.nextInt(3);
            if (r == 2) return random.nextBoolean() ? Integer.MIN_VALUE : Integer.MAX_VALUE;
            return bound <= 0 ? 0 : random.nextInt(bound);
        }

        void type(String s) {
            for (char c : s.toCharArray()) due("letter(" + (int) c + ")", x.letter(c), m.letter(c));
        }

        String someWord(int length, int letters) {
            StringBuilder b = new StringBuilder();
            for (int i = 0; i < length; i++) b.append((char) ((random.nextInt(40) == 0 ? 'y' : 'a') + random.nextInt(letters) % 26));
            return b.toString();
        }

        String someText(int length, int letters) {
            int n = 1 + random.nextInt(random.nextInt(5) == 0 ? 13 : 9);
            StringBuilder b = new StringBuilder();
            for (int i = 0; i < n; i++) {
                String s = someWord(length, letters);
                for (int t = 0; t < 9 && b.indexOf(s) >= 0; t++) s = someWord(length, letters);
                if (b.length() + s.length() + 1 > 60) break;
                if (i > 0) b.append(',');
                b.append(s);
            }
            int spoil = random.nextInt(12);
            if (spoil == 0) b.insert(random.nextInt(b.length() + 1), (char) (32 + random.nextInt(95)));
            if (spoil == 1) b.deleteCharAt(random.nextInt(b.length()));
            if (spoil == 2 && b.length() < 60) b.append(',');
            return b.toString();
        }

        void fill(int length, int letters) {
            type(someText(length, letters));
            due("fault()", x.fault(), m.fault());
            due("words()", x.words(), m.words());
            if (random.nextInt(4) > 0) due("blank()", x.blank(), m.blank());
        }

        void askAll() {
            for (int i = -1; i <= 6; i++) due("about(" + i + ")", x.about(i), m.about(i));
            for (int i = -1; i <= 5; i++) due("search(" + i + ")", x.search(i), m.search(i));
            for (int i = -1; i <= 5; i++) due("count(" + i + ")", x.count(i), m.count(i));
            for (int i = -1; i <= 3; i++) due("squares(" + i + ")", x.squares(i), m.squares(i));
            for (int i = -1; i <= 3; i++) due("heaviest(" + i + ")", x.heaviest(i), m.heaviest(i));
            due("digest()", x.digest(), m.digest());
        }

        void step(int length, int letters) {
            int w = near(m.list.size()), p = near(m.length()), q = near(m.length());
            int kind = near(3), what = near(5);
            int size = kind < 0 || kind > 2 ? 1 : m.squares(kind);
            int square = near(size), one = near(m.all().size());
            switch (random.nextInt(26)) {
                case 0: { int c = random.nextInt(140) - 5; due("letter(" + c + ")", x.letter(c), m.letter(c)); break; }
                case 1: if (random.nextInt(4) == 0) due("blank()", x.blank(), m.blank()); break;
                case 2: due("fault()", x.fault(), m.fault()); break;
                case 3: if (random.nextInt(2) == 0) fill(random.nextInt(5) == 0 ? 2 + random.nextInt(3) : length, letters); break;
                case 4: if (random.nextInt(2) == 0) due("strike(" + w + ")", x.strike(w), m.strike(w)); break;
                case 5: { int v = near(10); due("weigh(" + w + "," + v + ")", x.weigh(w, v), m.weigh(w, v)); break; }
                case 6: due("about(" + what + ")", x.about(what), m.about(what)); break;
                case 7: due("word(" + w + "," + what + ")", x.word(w, what), m.word(w, what)); break;
                case 8: due("sign(" + w + "," + p + ")", x.sign(w, p), m.sign(w, p)); break;
                case 9: { int n = near(m.length() + 1); due("begins(" + w + "," + n + ")", x.begins(w, n), m.begins(w, n)); break; }
                case 10: due("squares(" + kind + ")", x.squares(kind), m.squares(kind)); break;
                case 11: due("row(" + kind + "," + square + "," + p + ")", x.row(kind, square, p), m.row(kind, square, p)); break;
                case 12: due("turned(" + one + ")", x.turned(one), m.turned(one)); break;
                case 13: due("heaviest(" + kind + ")", x.heaviest(kind), m.heaviest(kind)); break;
                case 14: due("heavy(" + one + ")", x.heavy(one), m.heavy(one)); break;
                case 15: case 16: due("put(" + p + "," + w + ")", x.put(p, w), m.put(p, w)); break;
                case 17: due("lift(" + p + ")", x.lift(p), m.lift(p)); break;
                case 18: due("board(" + p + ")", x.board(p), m.board(p)); break;
                case 19: due("fitting()", x.fitting(), m.fitting()); break;
                case 20: due("may(" + p + ")", x.may(p), m.may(p)); break;
                case 21: due("sure(" + p + "," + q + ")", x.sure(p, q), m.sure(p, q)); break;
                case 22: due("search(" + what + ")", x.search(what), m.search(what)); break;
                case 23: due("count(" + what + ")", x.count(what), m.count(what)); break;
                case 24: due("words()", x.words(), m.words()); break;
                default: due("digest()", x.digest(), m.digest()); break;
            }
        }
    }

    public static void main(String[] args) {
        int runs = args.length > 0 ? Integer.parseInt(args[0]) : 300;
        for (int seed = 0; seed < runs; seed++) {
            Run r = new Run(seed);
            int length = 2 + r.random.nextInt(3);
            int letters = 1 + (r.random.nextInt(3) == 0 ? r.random.nextInt(10) : 1 + r.random.nextInt(3));
            r.askAll();
            for (int i = 0; i < 2; i++) r.fill(length, letters);
            r.askAll();
            for (int i = 0; i < 150; i++) r.step(length, letters);
            r.askAll();
        }
        System.out.println(calls + " calls, " + wrong + " answers are not as due");
        if (wrong != 0) System.exit(1);
    }
}
