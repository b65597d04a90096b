/** Promises 32 and 33: each sentence that names a boundary case, with a test of its own. */
public final class EdgeSnapshotTest {
    private static final Edge EDGE = new Edge("EdgeSnapshotTest");

    public static void main(String[] args) {
        snapshotOfNewWorkbench();
        snapshotOfFullWorkbench();
        snapshotKeepsTheTree();
        snapshotWithoutTheTree();
        snapshotReplacesTheEarlierOne();
        snapshotIsACopy();
        restoreWithoutSnapshot();
        restoreStaysAvailable();
        restoreOfNumbersAndStart();
        restoreDiscardsEvenIfNothingChanges();
        restoreKeepsTheArrays();
        restoreAndCounts();
        EDGE.end();
    }

    /** "Takes a snapshot of the grammar and the current word": of an empty one, too. */
    private static void snapshotOfNewWorkbench() {
        GrammarAmbiguity x = new GrammarAmbiguity();
        x.snapshot();
        x.reset(6, 3);
        Edge.add(x, 5, 12, -1, -1, 0, 5, 5, 5);
        x.setStart(5);
        Look.write(x, "cccccccc");
        x.restore();
        EDGE.due("33: no productions", x.productionCount(), 0);
        EDGE.due("33: empty word", x.wordLength(), 0);
        EDGE.due("33: no trees", x.treesOfLength(1), 0L);
        EDGE.due("33: two terminals", x.wordsOfLength(6, 0), 64);
        EDGE.due("33: no terminal 2", Check.answer(() -> x.append(2)),
                "throws.IllegalArgumentException");
        EDGE.due("33: no nonterminal 1", Check.answer(() -> x.setStart(1)),
                "throws.IllegalArgumentException");
        EDGE.due("33: start", x.setStart(0), 0);
    }

    private static void snapshotOfFullWorkbench() {
        GrammarAmbiguity x = Edge.full();
        String grammar = Look.grammar(x);
        x.snapshot();
        x.reset(1, 1);
        EDGE.due("32: gone", x.productionCount(), 0);
        x.restore();
        EDGE.due("33: 24 productions", Look.grammar(x), grammar);
        EDGE.due("33: 8 terminals", Look.word(x), "abcabcab");
        EDGE.due("33: its trees", x.treeCount(), 117796352L);
        EDGE.due("33: still full", Check.answer(() -> x.addProduction(0, 0, 0, 0)), Edge.NONE);
        EDGE.due("33: the word, too", Check.answer(() -> x.append(0)), Edge.NONE);
    }

    /** snapshot does not say that it discards the tree. */
    private static void snapshotKeepsTheTree() {
        for (Edge.Make make : new Edge.Make[] {Edge::some, Edge::full}) {
            GrammarAmbiguity x = make.make();
            String tree = Edge.tree(x);
            x.snapshot();
            EDGE.due("32: the tree stays", Edge.tree(x), tree);
        }
        GrammarAmbiguity y = new GrammarAmbiguity();
        y.snapshot();
        EDGE.noTree("32: none comes", y);
    }

    /** "but not of the current tree". */
    private static void snapshotWithoutTheTree() {
        GrammarAmbiguity x = Edge.full();
        x.snapshot();
        x.restore();
        EDGE.noTree("33: at once", x);
        EDGE.due("33: the word is there", Look.word(x), "abcabcab");
        x.takeTree(1);
        x.snapshot();
        x.clearWord();
        x.restore();
        EDGE.noTree("33: behind a change", x);
        EDGE.due("33: the word is there again", Look.word(x), "abcabcab");
    }

    /** "It replaces an earlier snapshot." */
    private static void snapshotReplacesTheEarlierOne() {
        GrammarAmbiguity x = Edge.full();
        x.reset(1, 1);
        x.snapshot();
        x.restore();
        EDGE.due("32: empty behind full", x.productionCount(), 0);
        EDGE.due("32: its word", x.wordLength(), 0);
        x.addProduction(0, 10, -1, -1);
        x.append(0);
        x.snapshot();
        x.snapshot();
        x.reset(3, 3);
        x.restore();
        EDGE.due("32: the last one", Look.grammar(x), "0 10 -1 -1");
        EDGE.due("32: the last word", Look.word(x), "a");
    }

    /** What changes afterwards changes neither the snapshot nor, once restored, what it holds. */
    private static void snapshotIsACopy() {
        GrammarAmbiguity x = Look.pairs();
        Look.write(x, "ab");
        x.snapshot();
        for (int i = 0; i < 3; i++) {
            x.removeProduction(0);
            x.addProduction(0, 10, 10, 10);
            x.append(1);
            x.restore();
            EDGE.due("33: grammar", Look.grammar(x), "0 0 0 -1; 0 10 -1 -1; 0 11 -1 -1");
            EDGE.due("33: word", Look.word(x), "ab");
            Look.write(x, "bbbb");
            x.removeUseless();
            x.reset(2, 3);
            x.setStart(1);
            x.restore();
            EDGE.due("33: grammar again", Look.grammar(x), "0 0 0 -1; 0 10 -1 -1; 0 11 -1 -1");
            EDGE.due("33: word again", Look.word(x), "ab");
        }
    }

    /** "IllegalStateException if there is no snapshot". */
    private static void restoreWithoutSnapshot() {
        EDGE.refused("33: new", GrammarAmbiguity::new, Edge.STATE, x -> x.restore());
        EDGE.refused("33: with a tree", () -> {
            GrammarAmbiguity x = Look.pairs();
            x.allocate(0, true, 3);
            x.drawTree(1, 5);
            return x;
        }, Edge.STATE, x -> x.restore());
        EDGE.taken("33: with a snapshot", Edge::full, x -> x.restore());
    }

    /** "The snapshot stays available." */
    private static void restoreStaysAvailable() {
        GrammarAmbiguity x = Edge.some();
        for (int i = 0; i < 5; i++) {
            x.restore();
            EDGE.due("33: word", Look.word(x), "accb");
            EDGE.due("33: productions", x.productionCount(), 6);
            x.reset(1, 1);
        }
    }

    private static void restoreOfNumbersAndStart() {
        for (int i = 1; i <= 6; i++) {
            for (int j = 1; j <= 3; j++) {
                int n = i;
                int t = j;
                Edge.Make make = () -> {
                    GrammarAmbiguity x = Look.bench(n, t);
                    x.setStart(n - 1);
                    x.snapshot();
                    x.reset(7 - n, 4 - t);
                    x.restore();
                    return x;
                };
                EDGE.due("33: start", make.make().setStart(0), n - 1);
                EDGE.range("33: nonterminals", make, 0, n - 1, Edge.ARGUMENT,
                        (x, number) -> x.setStart(number));
                EDGE.range("33: terminals", make, 0, t - 1, Edge.ARGUMENT,
                        (x, number) -> x.append(number));
            }
        }
    }

    /** "Discards the tree", also if grammar and word are those of the snapshot. */
    private static void restoreDiscardsEvenIfNothingChanges() {
        GrammarAmbiguity x = Edge.some();
        x.snapshot();
        EDGE.due("33: before", x.treeNumber(), 3L);
        x.restore();
        EDGE.noTree("33: nothing changes", x);
        EDGE.due("33: start", x.setStart(1), 1);
    }

    /** Restores "the grammar and the current word", and no array. */
    private static void restoreKeepsTheArrays() {
        for (int slot = 0; slot < 3; slot++) {
            for (Edge.Make make : new Edge.Make[] {Edge::some, Edge::full}) {
                GrammarAmbiguity x = make.make();
                x.restore();
                EDGE.due("33: slot " + slot, Edge.slot(x, slot), Edge.slot(make.make(), slot));
            }
        }
        GrammarAmbiguity y = new GrammarAmbiguity();
        y.allocate(0, true, 2);
        y.snapshot();
        y.setElement(0, 1, 8);
        y.allocate(1, false, 1);
        y.restore();
        EDGE.due("33: a changed array", Edge.slot(y, 0), "0 8 ints");
        EDGE.due("33: a new array", Edge.slot(y, 1), "0 shorts");
    }

    /** What had been counted for the other grammar does not stay. */
    private static void restoreAndCounts() {
        GrammarAmbiguity x = Edge.full();
        x.treesOfLength(10);
        x.wordsOfLength(6, 3);
        x.restore();
        // Nonterminal 2 of the snapshot has the trees c, c2, a2b and a2b by way of 0 and 1.
        long[] trees = {1, 1, 3, 5, 11, 21};
        int[] words = {1, 1, 2, 3, 5, 8};
        for (int length = 1; length <= 6; length++) {
            EDGE.due("33: trees of " + length, x.treesOfLength(length), trees[length - 1]);
            EDGE.due("33: words of " + length, x.wordsOfLength(length, 3), words[length - 1]);
        }
        EDGE.due("33: trees of the word", x.treeCount(), 2L);
        EDGE.due("33: rank of the word", x.wordRank(), 0);
    }
}
