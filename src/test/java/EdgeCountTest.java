/** Promises 14 to 18: each sentence that names a boundary case, with a test of its own. */
public final class EdgeCountTest {
    private static final Edge EDGE = new Edge("EdgeCountTest");
    private static final long[] CATALAN = {1, 1, 2, 5, 14, 42, 132, 429, 1430, 4862};

    public static void main(String[] args) {
        treesOfEmptyWord();
        treesOfShortestAndLongestWord();
        treesOfWordNotInLanguage();
        treesWithoutProductions();
        lengthOfTrees();
        noTreesOfLength();
        treesJustAtALength();
        greatNumbersOfTrees();
        lengthOfWords();
        kindOfWords();
        noWords();
        wordsWithOneTreeOrTwo();
        allWords();
        wordsOfTheLastNonterminal();
        wordsOfThreeParts();
        lengthOfShare();
        shareOfNoWords();
        shareLeastAndGreatest();
        shareInDoubles();
        lengthOfAverage();
        averageOfNoWords();
        averageLeast();
        averageInDoubles();
        EDGE.end();
    }

    /** S -> SS | a with one terminal: one word of each length, with a Catalan number of trees. */
    private static GrammarAmbiguity ones() {
        return Look.bench(1, 1, 0, 0, 0, -1, 0, 10, -1, -1);
    }

    /** S -> ab alone. */
    private static GrammarAmbiguity onlyAb() {
        GrammarAmbiguity x = Look.bench(1, 2, 0, 10, 11, -1);
        Look.write(x, "ab");
        x.takeTree(0);
        return x;
    }

    // Promise 14.

    /** "0 if the word is empty". */
    private static void treesOfEmptyWord() {
        EDGE.due("14: new", new GrammarAmbiguity().treeCount(), 0L);
        EDGE.due("14: of an unwritten word", ones().treeCount(), 0L);
        GrammarAmbiguity x = Edge.full();
        x.clearWord();
        EDGE.due("14: of a cleared word", x.treeCount(), 0L);
        GrammarAmbiguity y = Edge.some();
        y.loadWord(0, 0, 0);
        EDGE.due("14: of an empty word from an array", y.treeCount(), 0L);
    }

    private static void treesOfShortestAndLongestWord() {
        GrammarAmbiguity x = ones();
        for (int length = 1; length <= 8; length++) {
            x.append(0);
            EDGE.due("14: length " + length, x.treeCount(), CATALAN[length - 1]);
        }
        EDGE.due("14: of a full grammar and word", Edge.full().treeCount(), 117796352L);
    }

    private static void treesOfWordNotInLanguage() {
        GrammarAmbiguity x = onlyAb();
        EDGE.due("14: in it", x.treeCount(), 1L);
        for (String word : new String[] {"a", "b", "aa", "ba", "bb", "aab", "abb", "abab"}) {
            Look.write(x, word);
            EDGE.due("14: " + word, x.treeCount(), 0L);
        }
        Look.write(x, "abababab");
        EDGE.due("14: a long one", x.treeCount(), 0L);
    }

    private static void treesWithoutProductions() {
        GrammarAmbiguity x = Look.bench(6, 3);
        for (int i = 0; i < 8; i++) {
            x.append(i % 3);
            EDGE.due("14: without productions", x.treeCount(), 0L);
        }
        x.addProduction(1, 10, -1, -1);
        Look.write(x, "a");
        EDGE.due("14: of another nonterminal", x.treeCount(), 0L);
        x.setStart(1);
        EDGE.due("14: of this nonterminal", x.treeCount(), 1L);
    }

    // Promise 15.

    /** "the length, 1 to 10". */
    private static void lengthOfTrees() {
        for (Edge.Make make : new Edge.Make[] {GrammarAmbiguity::new, Edge::some, Edge::full}) {
            EDGE.range("15: length", make, 1, 10, Edge.ARGUMENT, (x, n) -> x.treesOfLength(n));
        }
        GrammarAmbiguity x = ones();
        for (int length = 10; length >= 1; length--) {
            EDGE.due("15: " + length, x.treesOfLength(length), CATALAN[length - 1]);
        }
    }

    private static void noTreesOfLength() {
        GrammarAmbiguity x = Look.bench(6, 3);
        for (int length = 1; length <= 10; length++) {
            EDGE.due("15: none of " + length, x.treesOfLength(length), 0L);
        }
        x.addProduction(5, 12, -1, -1);
        EDGE.due("15: only of another nonterminal", x.treesOfLength(1), 0L);
        x.setStart(5);
        EDGE.due("15: of the last nonterminal", x.treesOfLength(1), 1L);
        EDGE.due("15: of length 1 alone", x.treesOfLength(2), 0L);
    }

    /** One tree of 9, of 10 or of 11 terminals: the last cannot be counted any more. */
    private static void treesJustAtALength() {
        int[][] sides = {{2, 2, 2}, {1, 3, -1}, {1, 3, 3}};
        for (int i = 0; i < 3; i++) {
            GrammarAmbiguity x = Look.bench(4, 1, 1, 2, 2, 2, 2, 10, 10, 10, 3, 10, -1, -1);
            x.addProduction(0, sides[i][0], sides[i][1], sides[i][2]);
            for (int length = 1; length <= 10; length++) {
                EDGE.due("15: one of " + (9 + i), x.treesOfLength(length),
                        length == 9 + i ? 1L : 0L);
            }
            EDGE.due("9: its length", x.shortestLength(0), 9 + i);
        }
    }

    /** More trees than ints, and all digits of the number. */
    private static void greatNumbersOfTrees() {
        GrammarAmbiguity x = Edge.full();
        EDGE.due("15: of 8", x.treesOfLength(8), 772861865472L);
        EDGE.due("15: of 10", x.treesOfLength(10), 2608875131902560L);
        GrammarAmbiguity y = Look.bench(1, 3, 0, 0, 0, -1, 0, 10, -1, -1, 0, 11, -1, -1,
                0, 12, -1, -1, 0, 0, 0, 0);
        // The trees of 2 and 3 parts with 10 leaves, each leaf one of three.
        EDGE.due("15: twos and threes", y.treesOfLength(10), 59345L * 59049L);
    }

    // Promise 16.

    /** "the length, 1 to 6". */
    private static void lengthOfWords() {
        for (int i = 0; i <= 3; i++) {
            int trees = i;
            EDGE.range("16: length", Edge::full, 1, 6, Edge.ARGUMENT,
                    (x, n) -> x.wordsOfLength(n, trees));
        }
    }

    /** "trees: 0 .., 1 .., 2 .., 3 ..". */
    private static void kindOfWords() {
        for (int length : new int[] {1, 6}) {
            EDGE.range("16: trees", Edge::some, 0, 3, Edge.ARGUMENT,
                    (x, n) -> x.wordsOfLength(length, n));
        }
        EDGE.refused("16: both", Edge::some, Edge.ARGUMENT, x -> x.wordsOfLength(7, 4));
        EDGE.refused("16: both, below", Edge::some, Edge.ARGUMENT, x -> x.wordsOfLength(0, -1));
    }

    private static void noWords() {
        for (int terminals = 1; terminals <= 3; terminals++) {
            GrammarAmbiguity x = Look.bench(1, terminals);
            int all = 1;
            for (int length = 1; length <= 6; length++) {
                all *= terminals;
                EDGE.due("16: all of " + length, x.wordsOfLength(length, 0), all);
                for (int trees = 1; trees <= 3; trees++) {
                    EDGE.due("16: none of " + length, x.wordsOfLength(length, trees), 0);
                }
            }
        }
    }

    /** "1 for the unambiguous words, 2 for the ambiguous words": exactly one, at least two. */
    private static void wordsWithOneTreeOrTwo() {
        // Of the words of 2: bb has no tree, ba one, ab two and aa three.
        GrammarAmbiguity x = Look.bench(3, 2, 0, 10, 10, -1, 0, 10, 1, -1, 0, 1, 10, -1,
                0, 10, 11, -1, 0, 10, 2, -1, 0, 11, 10, -1, 1, 10, -1, -1, 2, 11, -1, -1);
        long[] counts = {3, 2, 1, 0};
        String[] words = {"aa", "ab", "ba", "bb"};
        for (int i = 0; i < 4; i++) {
            Look.write(x, words[i]);
            EDGE.due("14: " + words[i], x.treeCount(), counts[i]);
        }
        EDGE.due("16: without a tree", x.wordsOfLength(2, 0), 1);
        EDGE.due("16: with one", x.wordsOfLength(2, 1), 1);
        EDGE.due("16: with two or three", x.wordsOfLength(2, 2), 2);
        EDGE.due("16: with any", x.wordsOfLength(2, 3), 3);
        EDGE.due("19: the first of them", x.firstAmbiguous(2), 2);
        EDGE.due("19: has three", Look.word(x), "aa");
        EDGE.due("17: one of three", x.unambiguousShare(2), 1.0 / 3.0);
        EDGE.due("18: six of three", x.averageTrees(2), 2.0);
    }

    private static void allWords() {
        GrammarAmbiguity x = Edge.full();
        int all = 1;
        for (int length = 1; length <= 6; length++) {
            all *= 3;
            EDGE.due("16: not in it", x.wordsOfLength(length, 0), 0);
            EDGE.due("16: in it", x.wordsOfLength(length, 3), all);
            EDGE.due("16: with one tree", x.wordsOfLength(length, 1), length == 1 ? 3 : 0);
            EDGE.due("16: with more", x.wordsOfLength(length, 2), length == 1 ? 0 : all);
        }
        GrammarAmbiguity y = Look.bench(1, 1, 0, 0, 10, -1, 0, 10, -1, -1);
        for (int length = 1; length <= 6; length++) {
            EDGE.due("16: the only word", y.wordsOfLength(length, 1), 1);
            EDGE.due("16: no other", y.wordsOfLength(length, 0), 0);
        }
    }

    /** With 6 nonterminals and 3 terminals, each of the former as the start symbol. */
    private static void wordsOfTheLastNonterminal() {
        GrammarAmbiguity x = Look.bench(6, 3);
        for (int i = 0; i < 6; i++) {
            Edge.add(x, i, i, i, -1, i, 10, -1, -1, i, 11, -1, -1, i, 12, -1, -1);
        }
        EDGE.due("6: full", x.productionCount(), 24);
        for (int start = 0; start < 6; start++) {
            x.setStart(start);
            int all = 1;
            for (int length = 1; length <= 6; length++) {
                all *= 3;
                EDGE.due("16: all of " + start, x.wordsOfLength(length, 3), all);
                EDGE.due("16: one tree", x.wordsOfLength(length, 1), length < 3 ? all : 0);
                EDGE.due("18: trees", x.averageTrees(length), (double) CATALAN[length - 1]);
            }
        }
    }

    /** The last part has words of two lengths, and none of them runs over into its neighbour. */
    private static void wordsOfThreeParts() {
        // The part that varies is a, or aa, or c, or cc.
        int[] last = {1, 10, -1, -1, 1, 10, 10, -1, 1, 12, -1, -1, 1, 12, 12, -1};
        int[][] sides = {{11, 11, 1}, {11, 1, 11}, {1, 11, 11}};
        String[][] threes = {{"bba", "bbc"}, {"bab", "bcb"}, {"abb", "cbb"}};
        String[][] fours = {{"bbaa", "bbcc"}, {"baab", "bccb"}, {"aabb", "ccbb"}};
        for (int i = 0; i < 3; i++) {
            GrammarAmbiguity x = Look.bench(2, 3, last);
            x.addProduction(0, sides[i][0], sides[i][1], sides[i][2]);
            int[] due = {0, 0, 2, 2, 0, 0};
            for (int length = 1; length <= 6; length++) {
                EDGE.due("16: of " + length, x.wordsOfLength(length, 3), due[length - 1]);
                EDGE.due("16: unambiguous", x.wordsOfLength(length, 1), due[length - 1]);
            }
            for (int rank = 0; rank < 2; rank++) {
                x.takeWord(3, rank);
                EDGE.due("21: of three", Look.word(x), threes[i][rank]);
                EDGE.due("14: of three", x.treeCount(), 1L);
                x.takeWord(4, rank);
                EDGE.due("21: of four", Look.word(x), fours[i][rank]);
                EDGE.due("14: of four", x.treeCount(), 1L);
            }
        }
    }

    // Promise 17.

    /** "the length, 1 to 6". */
    private static void lengthOfShare() {
        for (Edge.Make make : new Edge.Make[] {GrammarAmbiguity::new, Edge::some, Edge::full}) {
            EDGE.range("17: length", make, 1, 6, Edge.ARGUMENT, (x, n) -> x.unambiguousShare(n));
        }
    }

    /** "1.0 if the language has no words of this length". */
    private static void shareOfNoWords() {
        GrammarAmbiguity x = onlyAb();
        for (int length = 1; length <= 6; length++) {
            EDGE.due("17: none but of 2", x.unambiguousShare(length), 1.0);
            EDGE.due("17: no grammar", new GrammarAmbiguity().unambiguousShare(length), 1.0);
        }
        // Only the word of 3 is there, and it is ambiguous.
        GrammarAmbiguity y = Look.bench(2, 1, 0, 10, 1, -1, 0, 1, 10, -1, 1, 10, 10, -1);
        double[] shares = {1.0, 1.0, 0.0, 1.0, 1.0, 1.0};
        for (int length = 1; length <= 6; length++) {
            EDGE.due("17: of " + length, y.unambiguousShare(length), shares[length - 1]);
        }
    }

    private static void shareLeastAndGreatest() {
        GrammarAmbiguity x = Edge.full();
        EDGE.due("17: all", x.unambiguousShare(1), 1.0);
        EDGE.due("17: none", x.unambiguousShare(2), 0.0);
        EDGE.due("17: none of 729", x.unambiguousShare(6), 0.0);
    }

    /** "the number of the former divided by that of the latter, both converted to double". */
    private static void shareInDoubles() {
        // S -> aS | Sb | a | b: of the n + 1 words of length n, all a and all b have one tree.
        GrammarAmbiguity x = Look.bench(1, 2, 0, 10, 0, -1, 0, 0, 11, -1, 0, 10, -1, -1,
                0, 11, -1, -1);
        for (int length = 2; length <= 6; length++) {
            EDGE.due("17: two of " + (length + 1), x.unambiguousShare(length),
                    2.0 / (length + 1));
        }
        EDGE.due("17: two of 7", x.unambiguousShare(6), 0.2857142857142857);
    }

    // Promise 18.

    /** "the length, 1 to 6". */
    private static void lengthOfAverage() {
        for (Edge.Make make : new Edge.Make[] {Edge::some, Edge::full}) {
            EDGE.range("18: length", make, 1, 6, Edge.ARGUMENT, (x, n) -> x.averageTrees(n));
        }
    }

    /** "NoSuchElementException if the language has no words of this length". */
    private static void averageOfNoWords() {
        for (int i = 1; i <= 6; i++) {
            int length = i;
            EDGE.refused("18: no grammar", GrammarAmbiguity::new, Edge.ELEMENT,
                    x -> x.averageTrees(length));
            if (length != 2) {
                EDGE.refused("18: none of " + length, EdgeCountTest::onlyAb, Edge.ELEMENT,
                        x -> x.averageTrees(length));
            }
        }
        EDGE.taken("18: one of 2", EdgeCountTest::onlyAb, x -> x.averageTrees(2));
    }

    private static void averageLeast() {
        EDGE.due("18: one word with one tree", onlyAb().averageTrees(2), 1.0);
        EDGE.due("18: of 1", Edge.full().averageTrees(1), 1.0);
        GrammarAmbiguity x = ones();
        for (int length = 1; length <= 6; length++) {
            EDGE.due("18: one word", x.averageTrees(length), (double) CATALAN[length - 1]);
        }
    }

    /** "the number of trees .. divided by the number of words .., both converted to double". */
    private static void averageInDoubles() {
        GrammarAmbiguity x = Look.bench(1, 2, 0, 10, 0, -1, 0, 0, 11, -1, 0, 10, -1, -1,
                0, 11, -1, -1);
        for (int length = 1; length <= 6; length++) {
            EDGE.due("18: of " + length, x.averageTrees(length),
                    (double) (1 << length) / (length + 1));
        }
        EDGE.due("18: 64 by 7", x.averageTrees(6), 9.142857142857142);
        GrammarAmbiguity y = Edge.full();
        EDGE.due("18: great", y.averageTrees(6), (double) y.treesOfLength(6) / 729.0);
        EDGE.due("18: in digits", y.averageTrees(6), 348796.0);
    }
}
