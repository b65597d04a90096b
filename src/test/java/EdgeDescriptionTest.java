/** The "Description": each of its sentences that names a boundary case, with a test of its own. */
public final class EdgeDescriptionTest {
    private static final Edge EDGE = new Edge("EdgeDescriptionTest");

    /** A name for a call, and the call. */
    private record Step(String name, Edge.Do call) {}

    public static void main(String[] args) {
        numbersOfNonterminals();
        numbersOfTerminals();
        rightSides();
        orderOfProductions();
        shortestAndLongestWords();
        orderOfWords();
        orderOfLengths();
        orderByProduction();
        orderByLengthOfParts();
        orderByParts();
        nodesInPreorder();
        treesThatAreDiscarded();
        treesThatStay();
        treesThatStayBehindRefusedCalls();
        slotsOfBothKinds();
        lastOf512Calls();
        EDGE.end();
    }

    /** "A grammar has 1 to 6 nonterminals, numbered from 0": each can be used everywhere. */
    private static void numbersOfNonterminals() {
        for (int n = 1; n <= 6; n++) {
            GrammarAmbiguity x = Look.bench(n, 1);
            for (int i = 0; i < n; i++) {
                EDGE.due("nonterminal " + i, x.addProduction(i, i, 10, i), 2 * i);
                EDGE.due("a terminal of " + i, x.addProduction(i, 10, -1, -1), 2 * i + 1);
                x.setStart(i);
                EDGE.due("trees of " + i, x.treesOfLength(3), 1L);
                EDGE.due("shortest of " + i, x.shortestLength(i), 1);
            }
            EDGE.due("productions", x.productionCount(), 2 * n);
        }
    }

    /** "1 to 3 terminals, numbered from 0". */
    private static void numbersOfTerminals() {
        for (int t = 1; t <= 3; t++) {
            GrammarAmbiguity x = Look.bench(1, t);
            for (int i = 0; i < t; i++) {
                x.addProduction(0, 10 + i, -1, -1);
                EDGE.due("words of 1", x.wordsOfLength(1, 1), i + 1);
                x.takeWord(1, i);
                EDGE.due("terminal " + i, x.terminalAt(0), i);
            }
            EDGE.due("no other words", x.wordsOfLength(1, 0), 0);
        }
    }

    /** "The right side consists of one terminal, or of two or three symbols." */
    private static void rightSides() {
        Edge.Make make = () -> Look.bench(2, 2);
        EDGE.taken("a terminal", make, x -> x.addProduction(0, 10, -1, -1));
        EDGE.refused("a nonterminal", make, Edge.ARGUMENT, x -> x.addProduction(0, 0, -1, -1));
        EDGE.refused("nothing", make, Edge.ARGUMENT, x -> x.addProduction(0, -1, -1, -1));
        for (int a : new int[] {0, 1, 10, 11}) {
            for (int b : new int[] {0, 1, 10, 11}) {
                EDGE.taken("two symbols", make, x -> x.addProduction(0, a, b, -1));
                for (int c : new int[] {0, 1, 10, 11}) {
                    EDGE.taken("three symbols", make, x -> x.addProduction(0, a, b, c));
                }
            }
        }
    }

    /** "at most 24 productions, numbered from 0 in the order in which they were added". */
    private static void orderOfProductions() {
        GrammarAmbiguity x = Edge.full();
        for (int i = 0; i < 24; i++) {
            for (int j = 0; j < 4; j++) {
                EDGE.due("symbol", x.productionSymbol(i, j), Edge.FULL[4 * i + j]);
            }
        }
        EDGE.refused("a 25th", Edge::full, Edge.STATE, y -> y.addProduction(2, 2, 2, 2));
    }

    /** "A word is a sequence of 1 to 8 terminals": the empty sequence has no tree. */
    private static void shortestAndLongestWords() {
        GrammarAmbiguity x = Look.bench(1, 1, 0, 10, 0, -1, 0, 10, -1, -1);
        EDGE.due("the empty word", x.treeCount(), 0L);
        for (int length = 1; length <= 8; length++) {
            x.append(0);
            EDGE.due("a word of " + length, x.treeCount(), 1L);
            EDGE.due("its tree", x.takeTree(0), length);
        }
        EDGE.due("a word of 9", Check.answer(() -> x.append(0)), Edge.NONE);
    }

    /** "Words of the same length are compared lexicographically by the numbers". */
    private static void orderOfWords() {
        // The terminals are added the other way round: only their numbers count.
        GrammarAmbiguity x = Look.bench(1, 3, 0, 12, -1, -1, 0, 11, -1, -1, 0, 10, -1, -1,
                0, 0, 0, -1);
        String[] words = {"aa", "ab", "ac", "ba", "bb", "bc", "ca", "cb", "cc"};
        for (int rank = 0; rank < 9; rank++) {
            x.takeWord(2, rank);
            EDGE.due("rank " + rank, Look.word(x), words[rank]);
            EDGE.due("rank of " + words[rank], x.wordRank(), rank);
        }
    }

    /** "Shorter words come before longer ones." */
    private static void orderOfLengths() {
        // Two trees have cc and aaa and no other word of at most 3 terminals.
        GrammarAmbiguity x = Look.bench(3, 3, 0, 10, 1, -1, 0, 1, 10, -1, 1, 10, 10, -1,
                0, 12, 2, -1, 0, 2, 12, -1, 2, 12, -1, -1);
        EDGE.due("ambiguous of 2", x.wordsOfLength(2, 2), 1);
        EDGE.due("ambiguous of 3", x.wordsOfLength(3, 2), 1);
        EDGE.due("the first", x.firstAmbiguous(3), 2);
        EDGE.due("is cc", Look.word(x), "cc");
    }

    /** "First their productions are compared by their numbers." */
    private static void orderByProduction() {
        // Production 0 has the longer first part, and comes first for all that.
        GrammarAmbiguity x = Look.bench(2, 1, 0, 1, 10, -1, 0, 10, 1, -1, 1, 10, 10, -1);
        Look.write(x, "aaa");
        x.takeTree(0);
        EDGE.due("production 0", Look.tree(x), "0@0+3 2@0+2");
        x.takeTree(1);
        EDGE.due("production 1", Look.tree(x), "1@0+3 2@1+2");
    }

    /** "the tree whose first different part is shorter comes first". */
    private static void orderByLengthOfParts() {
        // Parts of 1, 2 and 3; the productions of the parts speak for the long ones.
        GrammarAmbiguity x = Look.bench(2, 1, 1, 10, 10, 10, 1, 10, 10, -1, 1, 10, -1, -1,
                0, 1, 1, 1);
        Look.write(x, "aaaaaa");
        String[] trees = {
            "3@0+6 2@0+1 1@1+2 0@3+3", "3@0+6 2@0+1 0@1+3 1@4+2", "3@0+6 1@0+2 2@2+1 0@3+3",
            "3@0+6 1@0+2 1@2+2 1@4+2", "3@0+6 1@0+2 0@2+3 2@5+1", "3@0+6 0@0+3 2@3+1 1@4+2",
            "3@0+6 0@0+3 1@3+2 2@5+1"
        };
        EDGE.due("seven trees", x.treeCount(), 7L);
        for (int i = 0; i < 7; i++) {
            x.takeTree(i);
            EDGE.due("tree " + i, Look.tree(x), trees[i]);
        }
    }

    /** "the parts that are trees are compared in this order, from left to right". */
    private static void orderByParts() {
        // Each part is b or a; a terminal stands nowhere, before, between or behind them.
        int[][] sides = {{1, 1, -1}, {10, 1, 1}, {1, 10, 1}, {1, 1, 10}};
        int[][] begins = {{0, 1}, {1, 2}, {0, 2}, {0, 1}};
        for (int i = 0; i < 4; i++) {
            GrammarAmbiguity x = Look.bench(2, 2, 1, 11, -1, -1, 1, 10, -1, -1);
            x.addProduction(0, sides[i][0], sides[i][1], sides[i][2]);
            int length = i == 0 ? 2 : 3;
            for (int number = 0; number < 4; number++) {
                EDGE.due("number", x.drawTree(Edge.seedFor(2 * number), length), (long) number);
                EDGE.due("left part", x.treeNode(1, 0), number / 2);
                EDGE.due("right part", x.treeNode(2, 0), number % 2);
                EDGE.due("left begin", x.treeNode(1, 1), begins[i][0]);
                EDGE.due("right begin", x.treeNode(2, 1), begins[i][1]);
            }
        }
        GrammarAmbiguity y = Look.bench(2, 2, 1, 11, -1, -1, 1, 10, -1, -1, 0, 1, 1, 1);
        for (int number = 0; number < 8; number++) {
            y.drawTree(Edge.seedFor(2 * number), 3);
            EDGE.due("first of three", y.treeNode(1, 0), number / 4);
            EDGE.due("second of three", y.treeNode(2, 0), number / 2 % 2);
            EDGE.due("third of three", y.treeNode(3, 0), number % 2);
        }
    }

    /** "numbered from 0 in preorder: .. the root first, then the nodes of its parts". */
    private static void nodesInPreorder() {
        GrammarAmbiguity x = Look.bench(4, 2, 0, 1, 2, 3, 1, 3, 3, -1, 2, 10, 3, -1,
                3, 11, -1, -1);
        Look.write(x, "bbabb");
        x.takeTree(0);
        EDGE.due("nodes", Look.tree(x), "0@0+5 1@0+2 3@0+1 3@1+1 2@2+2 3@3+1 3@4+1");
        GrammarAmbiguity y = Look.bench(1, 1, 0, 10, -1, -1);
        Look.write(y, "a");
        y.takeTree(0);
        EDGE.due("the root alone", Look.tree(y), "0@0+1");
    }

    private static final Step[] DISCARDING = {
        new Step("reset", x -> x.reset(2, 2)),
        new Step("addProduction", x -> x.addProduction(0, 0, 0, 0)),
        new Step("removeProduction", x -> x.removeProduction(3)),
        new Step("removeUseless", x -> x.removeUseless()),
        new Step("setStart", x -> x.setStart(0)),
        new Step("setStart to the same", x -> x.setStart(x.setStart(1))),
        new Step("append", x -> x.append(0)),
        new Step("clearWord", x -> x.clearWord()),
        new Step("firstAmbiguous", x -> x.firstAmbiguous(6)),
        new Step("takeWord", x -> x.takeWord(4, 0)),
        new Step("takeWord of the same", x -> x.takeWord(4, 4)),
        new Step("drawWord", x -> x.drawWord(1, 6)),
        new Step("drawWord of the same", x -> x.drawWord(Edge.seedFor(8), 4)),
        new Step("loadWord", x -> x.loadWord(0, 0, 8)),
        new Step("loadWord of nothing", x -> x.loadWord(0, -1, 0)),
        new Step("restore", x -> x.restore()),
    };

    /** "by every call that does not throw .. of a method that says that it discards the tree". */
    private static void treesThatAreDiscarded() {
        for (Step step : DISCARDING) {
            GrammarAmbiguity x = Edge.some();
            EDGE.due(step.name() + ": the tree before", x.treeNumber(), 3L);
            EDGE.due(step.name(), Edge.answer(step.call(), x), "taken");
            EDGE.noTree(step.name(), x);
        }
        // The word that some() has, taken and drawn once more, is the same word.
        GrammarAmbiguity x = Edge.some();
        EDGE.due("its rank", x.wordRank(), 4);
        x.drawWord(Edge.seedFor(8), 4);
        EDGE.due("the same word", Look.word(x), "abaa");
    }

    private static final Step[] KEEPING = {
        new Step("productionCount", x -> x.productionCount()),
        new Step("productionSymbol", x -> x.productionSymbol(0, 3)),
        new Step("shortestLength", x -> x.shortestLength(0)),
        new Step("wordLength", x -> x.wordLength()),
        new Step("terminalAt", x -> x.terminalAt(0)),
        new Step("treeCount", x -> x.treeCount()),
        new Step("treesOfLength", x -> x.treesOfLength(10)),
        new Step("wordsOfLength", x -> x.wordsOfLength(6, 0)),
        new Step("unambiguousShare", x -> x.unambiguousShare(6)),
        new Step("averageTrees", x -> x.averageTrees(6)),
        new Step("treeNumber", x -> x.treeNumber()),
        new Step("treeSize", x -> x.treeSize()),
        new Step("treeNode", x -> x.treeNode(0, 2)),
        new Step("allocate", x -> x.allocate(0, false, 40)),
        new Step("setElement", x -> x.setElement(0, 0, 9)),
        new Step("storeCounts", x -> x.storeCounts(0, 0)),
        new Step("snapshot", x -> x.snapshot()),
    };

    /** No other method discards the tree. */
    private static void treesThatStay() {
        for (Step step : KEEPING) {
            for (Edge.Make make : new Edge.Make[] {Edge::some, Edge::full}) {
                GrammarAmbiguity x = make.make();
                String tree = Edge.tree(x);
                EDGE.due(step.name(), Edge.answer(step.call(), x), "taken");
                EDGE.due(step.name() + " keeps the tree", Edge.tree(x), tree);
            }
        }
        GrammarAmbiguity x = Edge.some();
        String tree = Edge.tree(x);
        EDGE.due("wordRank", x.wordRank(), 4);
        EDGE.due("wordRank keeps the tree", Edge.tree(x), tree);
    }

    private static final Step[] REFUSED = {
        new Step("reset", x -> x.reset(0, 2)),
        new Step("addProduction", x -> x.addProduction(0, 1, 10, -1)),
        new Step("removeProduction", x -> x.removeProduction(24)),
        new Step("setStart", x -> x.setStart(6)),
        new Step("append", x -> x.append(3)),
        new Step("firstAmbiguous", x -> x.firstAmbiguous(1)),
        new Step("takeWord", x -> x.takeWord(6, 729)),
        new Step("drawWord", x -> x.drawWord(1, 7)),
        new Step("drawTree", x -> x.drawTree(1, 9)),
        new Step("takeTree", x -> x.takeTree(Long.MAX_VALUE)),
        new Step("loadWord", x -> x.loadWord(0, 39, 2)),
    };

    /** A call that throws an exception does not discard the tree, nor does it change the word. */
    private static void treesThatStayBehindRefusedCalls() {
        for (Edge.Make make : new Edge.Make[] {Edge::some, Edge::full}) {
            GrammarAmbiguity x = make.make();
            String tree = Edge.tree(x);
            String word = Look.word(x);
            for (Step step : REFUSED) {
                EDGE.due(step.name(), Edge.answer(step.call(), x).startsWith("throws"), true);
                EDGE.due(step.name() + " keeps the word", Look.word(x), word);
            }
            EDGE.due("the tree behind them all", Edge.tree(x), tree);
        }
    }

    /** "A slot is empty, or holds an array of shorts or ints with at most 40 elements." */
    private static void slotsOfBothKinds() {
        for (int slot = 0; slot < 3; slot++) {
            GrammarAmbiguity x = new GrammarAmbiguity();
            EDGE.due("empty", Edge.slot(x, slot), Edge.NONE);
            x.allocate(slot, true, 40);
            EDGE.due("ints", Edge.slot(x, slot), "0 ".repeat(40) + "ints");
            x.allocate(slot, false, 40);
            EDGE.due("shorts", Edge.slot(x, slot), "0 ".repeat(40) + "shorts");
            for (int other = 0; other < 3; other++) {
                if (other != slot) {
                    EDGE.due("the other is empty", Edge.slot(x, other), Edge.NONE);
                }
            }
        }
    }

    /** "An object is used for at most 512 calls": the last of them answers as the first. */
    private static void lastOf512Calls() {
        GrammarAmbiguity x = new GrammarAmbiguity();
        x.reset(3, 3);
        Edge.add(x, Edge.FULL);
        for (int calls = 25; calls < 511; calls += 3) {
            EDGE.due("call " + calls, x.removeProduction(23), 23);
            EDGE.due("then", x.addProduction(0, 1, 0, -1), 23);
            EDGE.due("then", x.wordsOfLength(6, 2), 729);
        }
        EDGE.due("call 512", x.treesOfLength(10), 2608875131902560L);
    }
}
