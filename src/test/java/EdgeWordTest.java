/** Promises 10 to 13 and 19 to 22: each sentence that names a boundary case. */
public final class EdgeWordTest {
    private static final Edge EDGE = new Edge("EdgeWordTest");

    public static void main(String[] args) {
        appendTerminal();
        appendReturnsTheLength();
        appendToFullWord();
        clearEmptyWord();
        clearFullWord();
        lengths();
        positionsOfEmptyWord();
        positionsOfWord();
        positionsOfFullWord();
        ambiguousLimit();
        ambiguousAtTheLimit();
        ambiguousBehindTheLimit();
        ambiguousFirstOfItsLength();
        ambiguousShortBeforeLong();
        rankOfWrongLength();
        rankOfWordNotInLanguage();
        rankFirstAndLast();
        takeLength();
        takeNegativeRank();
        takeGreatRank();
        takeFirstAndLast();
        takeOfNoWords();
        drawLength();
        drawOfNoWords();
        drawOfOneWord();
        drawSeeds();
        drawByEachHalf();
        EDGE.end();
    }

    /** S -> SS and the three terminals: all words, 729 of them with length 6. */
    private static GrammarAmbiguity all() {
        return Look.bench(1, 3, 0, 0, 0, -1, 0, 10, -1, -1, 0, 11, -1, -1, 0, 12, -1, -1);
    }

    /** S -> aSb | ab | c: one word at most of each length. */
    private static GrammarAmbiguity nested() {
        GrammarAmbiguity x = Look.bench(1, 3, 0, 10, 0, 11, 0, 10, 11, -1, 0, 12, -1, -1);
        Look.write(x, "aacbb");
        x.takeTree(0);
        return x;
    }

    private static Edge.Make written(Edge.Make make, String letters) {
        return () -> {
            GrammarAmbiguity x = make.make();
            Look.write(x, letters);
            return x;
        };
    }

    // Promise 10.

    /** "if there is no such terminal". */
    private static void appendTerminal() {
        for (int i = 1; i <= 3; i++) {
            int t = i;
            EDGE.range("10: of " + t, () -> Look.bench(6, t), 0, t - 1, Edge.ARGUMENT,
                    (x, number) -> x.append(number));
        }
        EDGE.range("10: with a tree", Edge::some, 0, 1, Edge.ARGUMENT,
                (x, number) -> x.append(number));
        for (int code : new int[] {10, 11, 12}) {
            EDGE.refused("10: a code", Edge::some, Edge.ARGUMENT, x -> x.append(code));
        }
    }

    /** "Returns the new length of the word." */
    private static void appendReturnsTheLength() {
        GrammarAmbiguity x = all();
        for (int length = 1; length <= 8; length++) {
            EDGE.due("10: length", x.append(length % 3), length);
            EDGE.due("12: length", x.wordLength(), length);
            EDGE.due("13: last", x.terminalAt(length - 1), length % 3);
        }
        EDGE.due("10: word", Look.word(x), "bcabcabc");
    }

    /** "IllegalStateException if the word has 8 terminals". */
    private static void appendToFullWord() {
        for (int i = 0; i < 3; i++) {
            int terminal = i;
            EDGE.refused("10: a ninth", Edge::full, Edge.STATE, x -> x.append(terminal));
        }
        EDGE.taken("10: an eighth", written(Edge::full, "abcabca"), x -> x.append(1));
        GrammarAmbiguity x = Edge.full();
        x.clearWord();
        EDGE.due("10: behind clearWord", x.append(2), 1);
        GrammarAmbiguity y = Edge.full();
        y.takeWord(6, 0);
        EDGE.due("10: behind takeWord", y.append(2), 7);
        EDGE.due("10: and once more", y.append(2), 8);
        EDGE.due("10: and no more", Check.answer(() -> y.append(2)), Edge.NONE);
        GrammarAmbiguity z = all();
        z.drawTree(1, 8);
        EDGE.due("10: behind drawTree", Check.answer(() -> z.append(0)), Edge.NONE);
    }

    // Promises 11 to 13.

    private static void clearEmptyWord() {
        GrammarAmbiguity x = all();
        EDGE.due("11: of the empty word", x.clearWord(), 0);
        EDGE.due("11: again", x.clearWord(), 0);
        EDGE.due("12: empty", x.wordLength(), 0);
    }

    /** "Makes the current word empty. Discards the tree. Returns the length that it had." */
    private static void clearFullWord() {
        GrammarAmbiguity x = Edge.full();
        EDGE.due("11: of a full word", x.clearWord(), 8);
        EDGE.due("12: then", x.wordLength(), 0);
        EDGE.due("14: then", x.treeCount(), 0L);
        EDGE.noTree("11: then", x);
        EDGE.due("11: then", x.clearWord(), 0);
        x.append(2);
        EDGE.due("11: of one terminal", x.clearWord(), 1);
    }

    /** "the length, 0 to 8". */
    private static void lengths() {
        EDGE.due("12: least", new GrammarAmbiguity().wordLength(), 0);
        EDGE.due("12: greatest", Edge.full().wordLength(), 8);
        GrammarAmbiguity x = all();
        for (int length = 1; length <= 6; length++) {
            x.takeWord(length, 0);
            EDGE.due("12: taken", x.wordLength(), length);
        }
        for (int length = 8; length >= 1; length--) {
            x.drawTree(length, length);
            EDGE.due("12: drawn", x.wordLength(), length);
        }
    }

    /** "if there is no such position": there is none in the empty word. */
    private static void positionsOfEmptyWord() {
        for (int position : new int[] {0, -1, 1, 7, 8, Edge.LEAST, Edge.MOST}) {
            EDGE.refused("13: empty, " + position, written(Edge::full, ""), Edge.INDEX,
                    x -> x.terminalAt(position));
        }
    }

    private static void positionsOfWord() {
        EDGE.range("13: of 4", Edge::some, 0, 3, Edge.INDEX, (x, n) -> x.terminalAt(n));
        EDGE.range("13: of 1", written(Edge::full, "c"), 0, 0, Edge.INDEX,
                (x, n) -> x.terminalAt(n));
        // The terminals of the longer word before it do not show.
        EDGE.range("13: of 3 after 8", () -> {
            GrammarAmbiguity x = Edge.full();
            x.takeWord(3, 5);
            return x;
        }, 0, 2, Edge.INDEX, (x, n) -> x.terminalAt(n));
    }

    private static void positionsOfFullWord() {
        EDGE.range("13: of 8", Edge::full, 0, 7, Edge.INDEX, (x, n) -> x.terminalAt(n));
        GrammarAmbiguity x = Edge.full();
        for (int position = 0; position < 8; position++) {
            EDGE.due("13: " + position, x.terminalAt(position), position % 3);
        }
    }

    // Promise 19.

    /** Every pair has two trees; a word of one terminal can never have two. */
    private static GrammarAmbiguity twice() {
        GrammarAmbiguity x = Edge.some();
        Edge.add(x, 1, 0, 1, -1, 0, 10, -1, -1, 0, 11, -1, -1);
        Look.write(x, "bbbbbbbb");
        x.takeTree(7);
        return x;
    }

    /** S has two trees for a word of so many times a, and no other ambiguous word. */
    private static GrammarAmbiguity twoTreesOf(int length) {
        GrammarAmbiguity x = Look.bench(4, 2, 1, 10, 10, -1, 2, 10, 10, 10, 3, 10, -1, -1);
        int[][] sides = {
            {3, 10, -1, 10, 3, -1}, {1, 10, -1, 10, 1, -1}, {2, 10, -1, 10, 2, -1},
            {1, 2, -1, 2, 1, -1}, {1, 1, 1, 2, 2, -1}, {2, 2, 3, 3, 2, 2}
        };
        int[] side = sides[length - 2];
        Edge.add(x, 0, side[0], side[1], side[2], 0, side[3], side[4], side[5]);
        Look.write(x, "aaaaaaaa".substring(0, length));
        x.takeTree(1);
        return x;
    }

    /** "the maximum length of the word, 1 to 6". */
    private static void ambiguousLimit() {
        for (int i = 2; i <= 6; i++) {
            int limit = i;
            EDGE.taken("19: limit " + limit, EdgeWordTest::twice, x -> x.firstAmbiguous(limit));
        }
        EDGE.refused("19: limit 1", EdgeWordTest::twice, Edge.ELEMENT, x -> x.firstAmbiguous(1));
        for (int limit : Edge.outside(1, 6)) {
            EDGE.refused("19: limit " + limit, EdgeWordTest::twice, Edge.ARGUMENT,
                    x -> x.firstAmbiguous(limit));
        }
    }

    /** "Returns the length of the word", which may be that of the limit. */
    private static void ambiguousAtTheLimit() {
        for (int length = 2; length <= 6; length++) {
            for (int limit = length; limit <= 6; limit++) {
                GrammarAmbiguity x = twoTreesOf(length);
                x.clearWord();
                EDGE.due("19: found", x.firstAmbiguous(limit), length);
                EDGE.due("19: its word", Look.word(x), "aaaaaa".substring(0, length));
                EDGE.due("19: its trees", x.treeCount(), 2L);
            }
        }
    }

    /** "if there is no ambiguous word of at most this length". */
    private static void ambiguousBehindTheLimit() {
        for (int i = 2; i <= 7; i++) {
            int length = i;
            for (int j = 1; j < length && j <= 6; j++) {
                int limit = j;
                EDGE.refused("19: behind the limit", () -> twoTreesOf(length), Edge.ELEMENT,
                        x -> x.firstAmbiguous(limit));
            }
        }
        EDGE.refused("19: none of any length", EdgeWordTest::nested, Edge.ELEMENT,
                x -> x.firstAmbiguous(6));
    }

    /** The first of the words with its length, even if it is the last of all. */
    private static void ambiguousFirstOfItsLength() {
        GrammarAmbiguity x = all();
        EDGE.due("19: of all", x.firstAmbiguous(6), 3);
        EDGE.due("19: the first of all", Look.word(x), "aaa");
        // All words have a tree; a second one have those that end in cc.
        x = Look.bench(3, 3, 0, 1, 0, -1, 0, 10, -1, -1, 0, 11, -1, -1, 0, 12, -1, -1,
                1, 10, -1, -1, 1, 11, -1, -1, 1, 12, -1, -1, 0, 12, 12, -1);
        EDGE.due("19: the last of 2", x.firstAmbiguous(6), 2);
        EDGE.due("19: the last", Look.word(x), "cc");
        // Without cc itself it is the first of those of length 3 that end in cc.
        x.removeProduction(7);
        x.addProduction(0, 1, 12, 12);
        EDGE.due("19: the first of some", x.firstAmbiguous(3), 3);
        EDGE.due("19: ends in cc", Look.word(x), "acc");
    }

    /** "Shorter words come before longer ones", though they are greater. */
    private static void ambiguousShortBeforeLong() {
        GrammarAmbiguity x = Look.bench(2, 2, 0, 1, 11, -1, 0, 11, 1, -1, 1, 11, -1, -1,
                0, 10, 10, 10, 1, 10, 10, -1, 0, 10, 1, -1);
        EDGE.due("19: the shorter one", x.firstAmbiguous(6), 2);
        EDGE.due("19: bb", Look.word(x), "bb");
        EDGE.due("19: aaa is ambiguous, too", x.wordsOfLength(3, 2), 1);
    }

    // Promise 20.

    /** "if the current word is empty or has more than 6 terminals". */
    private static void rankOfWrongLength() {
        for (String letters : new String[] {"", "aaaaaaa", "ccccccc", "aaaaaaaa", "cccccccc"}) {
            EDGE.refused("20: of " + letters, written(EdgeWordTest::all, letters), Edge.STATE,
                    x -> x.wordRank());
        }
        for (String letters : new String[] {"a", "aa", "aaa", "aaaa", "aaaaa", "aaaaaa"}) {
            EDGE.taken("20: of " + letters, written(EdgeWordTest::all, letters),
                    x -> x.wordRank());
        }
    }

    /** "if the current word is not in the language". */
    private static void rankOfWordNotInLanguage() {
        for (String letters : new String[] {"a", "b", "ac", "aaa", "aacb", "acbbb", "cccccc"}) {
            EDGE.refused("20: of " + letters, written(EdgeWordTest::nested, letters),
                    Edge.ELEMENT, x -> x.wordRank());
        }
        EDGE.refused("20: of no language", written(GrammarAmbiguity::new, "a"), Edge.ELEMENT,
                x -> x.wordRank());
    }

    /** "the number of words of the language that have its length and come before it". */
    private static void rankFirstAndLast() {
        GrammarAmbiguity x = all();
        String[] firsts = {"a", "aa", "aaa", "aaaa", "aaaaa", "aaaaaa"};
        String[] lasts = {"c", "cc", "ccc", "cccc", "ccccc", "cccccc"};
        int words = 1;
        for (int i = 0; i < 6; i++) {
            words *= 3;
            Look.write(x, firsts[i]);
            EDGE.due("20: first", x.wordRank(), 0);
            Look.write(x, lasts[i]);
            EDGE.due("20: last", x.wordRank(), words - 1);
        }
        Look.write(x, "baaaaa");
        EDGE.due("20: a third of all", x.wordRank(), 243);
        // Words of other lengths and words that are not in the language do not count.
        GrammarAmbiguity y = nested();
        EDGE.due("20: the only one", y.wordRank(), 0);
        EDGE.due("20: the tree stays", y.treeSize(), 3);
        y.removeProduction(1);
        y.addProduction(0, 12, 12, -1);
        y.addProduction(0, 11, 10, -1);
        Look.write(y, "cc");
        EDGE.due("20: behind ba alone", y.wordRank(), 1);
    }

    // Promise 21.

    /** "the length of the word, 1 to 6". */
    private static void takeLength() {
        EDGE.range("21: length", Edge::full, 1, 6, Edge.ARGUMENT, (x, n) -> x.takeWord(n, 0));
        EDGE.range("21: length", Edge::some, 1, 6, Edge.ARGUMENT, (x, n) -> x.takeWord(n, 1));
    }

    /** "or the rank is negative". */
    private static void takeNegativeRank() {
        for (int rank : new int[] {-1, -2, -729, Edge.LEAST, Edge.LEAST + 1, -65536, -256}) {
            EDGE.refused("21: rank " + rank, Edge::full, Edge.ARGUMENT,
                    x -> x.takeWord(6, rank));
        }
        EDGE.refused("21: rank -1 of 1", Edge::full, Edge.ARGUMENT, x -> x.takeWord(1, -1));
    }

    /** "if the language has no word of this length with this rank". */
    private static void takeGreatRank() {
        int words = 1;
        for (int i = 1; i <= 6; i++) {
            int length = i;
            words *= 3;
            int most = words;
            EDGE.taken("21: the last of " + length, Edge::full,
                    x -> x.takeWord(length, most - 1));
            int[] wrong = {most, most + 1, 729, 256 * most, 65536, 65536 * 3, 65536 * 729,
                Edge.MOST - 1, Edge.MOST};
            for (int rank : wrong) {
                EDGE.refused("21: rank " + rank + " of " + length, Edge::full, Edge.ELEMENT,
                        x -> x.takeWord(length, rank));
            }
        }
        EDGE.taken("21: the only one", EdgeWordTest::nested, x -> x.takeWord(5, 0));
        EDGE.refused("21: no second", EdgeWordTest::nested, Edge.ELEMENT, x -> x.takeWord(5, 1));
    }

    private static void takeFirstAndLast() {
        GrammarAmbiguity x = Edge.full();
        x.takeWord(1, 0);
        EDGE.due("21: the first of 1", Look.word(x), "a");
        EDGE.noTree("21", x);
        x.takeWord(1, 2);
        EDGE.due("21: the last of 1", Look.word(x), "c");
        x.takeWord(6, 0);
        EDGE.due("21: the first of 6", Look.word(x), "aaaaaa");
        x.takeWord(6, 728);
        EDGE.due("21: the last of 6", Look.word(x), "cccccc");
        x.takeWord(6, 243);
        EDGE.due("21: the first with b", Look.word(x), "baaaaa");
        x.takeWord(6, 242);
        EDGE.due("21: the last with a", Look.word(x), "accccc");
    }

    private static void takeOfNoWords() {
        EDGE.refused("21: no words of 4 with c", () -> {
            GrammarAmbiguity x = nested();
            x.removeProduction(1);
            return x;
        }, Edge.ELEMENT, x -> x.takeWord(4, 0));
        for (int i = 1; i <= 6; i++) {
            int length = i;
            EDGE.refused("21: none of " + length, GrammarAmbiguity::new, Edge.ELEMENT,
                    x -> x.takeWord(length, 0));
        }
    }

    // Promise 22.

    /** "the length, 1 to 6". */
    private static void drawLength() {
        EDGE.range("22: length", Edge::full, 1, 6, Edge.ARGUMENT, (x, n) -> x.drawWord(7, n));
        EDGE.range("22: length", Edge::some, 1, 6, Edge.ARGUMENT,
                (x, n) -> x.drawWord(Long.MIN_VALUE, n));
    }

    /** "if the language has no word of this length". */
    private static void drawOfNoWords() {
        Edge.Make odd = () -> {
            GrammarAmbiguity x = nested();
            x.removeProduction(1);
            x.takeTree(0);
            return x;
        };
        for (long seed : new long[] {0, 1, -1, Long.MIN_VALUE, Long.MAX_VALUE}) {
            for (int length : new int[] {2, 4, 6}) {
                EDGE.refused("22: none of " + length, odd, Edge.ELEMENT,
                        x -> x.drawWord(seed, length));
            }
            EDGE.taken("22: one of 5", odd, x -> x.drawWord(seed, 5));
        }
    }

    private static void drawOfOneWord() {
        for (long seed : new long[] {0, 1, -1, Long.MIN_VALUE, Long.MAX_VALUE}) {
            GrammarAmbiguity x = nested();
            EDGE.due("22: rank of the only word", x.drawWord(seed, 6), 0);
            EDGE.due("22: the only word", Look.word(x), "aaabbb");
            EDGE.noTree("22", x);
        }
    }

    /** "y is seed * 6364136223846793005 + 1442695040888963407 in long arithmetic with overflow". */
    private static void drawSeeds() {
        for (long[] row : Edge.HALVES) {
            for (int length = 1; length <= 6; length++) {
                int words = 1;
                for (int i = 0; i < length; i++) {
                    words *= 3;
                }
                GrammarAmbiguity x = all();
                int rank = x.drawWord(row[0], length);
                EDGE.due("22: seed " + row[0] + " of " + length, rank, (int) (row[1] % words));
                EDGE.due("22: its rank", x.wordRank(), rank);
            }
        }
    }

    /** "Its rank is the remainder of y >>> 1": 0 and 1 have the half 0, -1 has the greatest. */
    private static void drawByEachHalf() {
        long[] ys = {0, 1, 2, 3, 1456, 1457, 1458, 1459, -1, -2, Long.MIN_VALUE,
            Long.MIN_VALUE + 1, Long.MAX_VALUE, Long.MAX_VALUE - 1};
        long top = 1L << 62;
        long[] dues = {0, 0, 1, 1, 728, 728, 0, 0, (top - 1 + top) % 729, (top - 1 + top) % 729,
            top % 729, top % 729, (top - 1) % 729, (top - 1) % 729};
        for (int i = 0; i < ys.length; i++) {
            GrammarAmbiguity x = all();
            EDGE.due("22: y is " + ys[i], x.drawWord(Edge.seedFor(ys[i]), 6), (int) dues[i]);
        }
        GrammarAmbiguity x = all();
        for (int rank = 0; rank < 27; rank++) {
            EDGE.due("22: rank", x.drawWord(Edge.seedFor(2L * rank), 3), rank);
            EDGE.due("22: a", x.terminalAt(0), rank / 9);
            EDGE.due("22: b", x.terminalAt(1), rank / 3 % 3);
            EDGE.due("22: c", x.terminalAt(2), rank % 3);
        }
    }
}
