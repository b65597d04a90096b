/** Promises 1 to 9: a new object, and the grammar. */
public final class GrammarTest {
    private static final Class<?> ARGUMENT = IllegalArgumentException.class;
    private static final Class<?> STATE = IllegalStateException.class;
    private static final Class<?> INDEX = IndexOutOfBoundsException.class;
    private static final int LEAST = Integer.MIN_VALUE;
    private static final int MOST = Integer.MAX_VALUE;
    private static final Check CHECK = new Check("GrammarTest");

    public static void main(String[] args) {
        newObject();
        reset();
        addProduction();
        addToFullGrammar();
        removeProduction();
        removeUseless();
        removeUselessKeepsOrder();
        productionSymbol();
        setStart();
        shortestLength();
        CHECK.end();
    }

    private static void newObject() {
        GrammarAmbiguity x = new GrammarAmbiguity();
        CHECK.due("1: productions", x.productionCount(), 0);
        CHECK.due("1: word", x.wordLength(), 0);
        CHECK.due("1: tree", Check.answer(x::treeSize), "throws.IllegalStateException");
        CHECK.due("1: number", Check.answer(x::treeNumber), "throws.IllegalStateException");
        CHECK.due("1: snapshot", Check.answer(Check.call(x::restore)),
                "throws.IllegalStateException");
        for (int slot = 0; slot < 3; slot++) {
            CHECK.due("1: slot", Look.slot(x, slot), "throws.IllegalStateException");
        }
        CHECK.refused("1: nonterminal 1", x, ARGUMENT, () -> x.setStart(1));
        CHECK.refused("1: terminal 2", x, ARGUMENT, () -> x.append(2));
        CHECK.due("1: terminal 1", x.append(1), 1);
        CHECK.due("1: two terminals", x.wordsOfLength(1, 0), 2);
        CHECK.due("1: start", x.setStart(0), 0);
    }

    private static void reset() {
        GrammarAmbiguity x = Look.bench(3, 2, 0, 1, 2, -1, 1, 10, -1, -1, 2, 11, -1, -1);
        x.setStart(0);
        x.snapshot();
        x.setStart(2);
        x.allocate(1, true, 2);
        x.setElement(1, 1, 7);
        x.append(1);
        x.takeTree(0);
        int[][] wrong = {{0, 2}, {7, 2}, {-1, 2}, {3, 0}, {3, 4}, {3, -1}, {LEAST, 1}, {MOST, 1},
            {1, LEAST}, {1, MOST}};
        for (int[] pair : wrong) {
            CHECK.refused("2: reset(" + pair[0] + ", " + pair[1] + ")", x, ARGUMENT,
                    Check.call(() -> x.reset(pair[0], pair[1])));
        }
        x.reset(6, 3);
        CHECK.due("2: productions", x.productionCount(), 0);
        CHECK.due("2: word", x.wordLength(), 0);
        CHECK.due("2: tree", Look.tree(x), "");
        CHECK.due("2: slot stays", Look.slot(x, 1), "0 7 ");
        CHECK.due("2: start is 0", x.setStart(5), 0);
        CHECK.due("2: three terminals", x.append(2), 1);
        CHECK.due("2: all codes", x.addProduction(5, 12, 5, 10), 0);
        x.restore();
        CHECK.due("2: snapshot stays", Look.grammar(x), "0 1 2 -1; 1 10 -1 -1; 2 11 -1 -1");
        x.reset(1, 1);
        CHECK.refused("2: terminal 1", x, ARGUMENT, () -> x.append(1));
        CHECK.refused("2: nonterminal 1", x, ARGUMENT, () -> x.shortestLength(1));
        CHECK.due("2: counts are new", x.treesOfLength(1), 0L);
        CHECK.due("2: words are new", x.wordsOfLength(2, 0), 1);
    }

    private static void addProduction() {
        GrammarAmbiguity x = Look.bench(2, 2);
        CHECK.due("3: one terminal", x.addProduction(0, 10, -1, -1), 0);
        CHECK.due("3: two symbols", x.addProduction(0, 0, 1, -1), 1);
        CHECK.due("3: three symbols", x.addProduction(1, 11, 0, 10), 2);
        CHECK.due("3: other left side", x.addProduction(1, 10, -1, -1), 3);
        CHECK.due("3: itself twice", x.addProduction(0, 0, 0, -1), 4);
        CHECK.due("3: terminals", x.addProduction(0, 10, 10, 10), 5);
        String all = "0 10 -1 -1; 0 0 1 -1; 1 11 0 10; 1 10 -1 -1; 0 0 0 -1; 0 10 10 10";
        CHECK.due("3: all", Look.grammar(x), all);
        Look.write(x, "a");
        x.takeTree(0);
        int[][] wrong = {
            {2, 10, -1, -1}, {-1, 10, -1, -1}, {10, 10, -1, -1}, {MOST, 10, -1, -1},
            {LEAST, 10, -1, -1}, {0, -1, -1, -1}, {0, 2, 0, -1}, {0, 9, 0, -1}, {0, 12, -1, -1},
            {0, MOST, -1, -1}, {0, LEAST, -1, -1}, {0, 0, 2, -1}, {0, 0, -2, -1}, {0, 0, 12, -1},
            {0, 0, MOST, -1}, {0, 0, LEAST, -1}, {0, 0, 0, 2}, {0, 0, 0, -2}, {0, 0, 0, 12},
            {0, 0, 0, MOST}, {0, 0, 0, LEAST}, {0, 10, -1, 10}, {0, 0, -1, 0}, {0, 0, -1, -1},
            {0, 1, -1, -1}, {0, 10, -1, -1}, {0, 0, 1, -1}, {1, 11, 0, 10}, {0, 10, 10, 10},
            {0, -1, 10, -1}
        };
        for (int[] p : wrong) {
            CHECK.refused("3: " + p[0] + " " + p[1] + " " + p[2] + " " + p[3], x, ARGUMENT,
                    () -> x.addProduction(p[0], p[1], p[2], p[3]));
        }
        CHECK.due("3: the tree is there", x.treeSize(), 1);
        CHECK.due("3: nearly equal", x.addProduction(0, 0, 1, 0), 6);
        CHECK.due("3: the tree is gone", Look.tree(x), "");
        CHECK.due("3: the word stays", Look.word(x), "a");
        CHECK.due("3: counts are new", x.treesOfLength(3), 8L);
    }

    private static void addToFullGrammar() {
        GrammarAmbiguity x = Look.bench(5, 1);
        for (int i = 0; i < 24; i++) {
            CHECK.due("3: production " + i, x.addProduction(i / 5, i % 5, 10, -1), i);
        }
        CHECK.refused("3: a 25th", x, STATE, () -> x.addProduction(4, 4, 10, -1));
        CHECK.refused("3: equal before full", x, ARGUMENT, () -> x.addProduction(0, 0, 10, -1));
        CHECK.refused("3: wrong before full", x, ARGUMENT, () -> x.addProduction(0, 0, -1, -1));
        x.removeProduction(0);
        CHECK.due("3: room again", x.addProduction(4, 4, 10, -1), 23);
    }

    private static void removeProduction() {
        GrammarAmbiguity x = Look.pairs();
        Look.write(x, "ab");
        x.takeTree(0);
        for (int wrong : new int[] {-1, 3, 24, LEAST, MOST}) {
            CHECK.refused("4: " + wrong, x, ARGUMENT, () -> x.removeProduction(wrong));
        }
        CHECK.due("4: left", x.removeProduction(1), 2);
        CHECK.due("4: renumbered", Look.grammar(x), "0 0 0 -1; 0 11 -1 -1");
        CHECK.due("4: the tree is gone", Look.tree(x), "");
        CHECK.due("4: counts are new", x.treesOfLength(3), 2L);
        CHECK.due("4: words are new", x.wordsOfLength(2, 3), 1);
        CHECK.due("4: last", x.removeProduction(1), 1);
        CHECK.due("4: only", x.removeProduction(0), 0);
        CHECK.refused("4: none", x, ARGUMENT, () -> x.removeProduction(0));
        CHECK.due("4: again", x.addProduction(0, 11, -1, -1), 0);
    }

    private static void removeUseless() {
        GrammarAmbiguity x = Look.pairs();
        x.drawTree(1, 3);
        CHECK.due("5: nothing useless", x.removeUseless(), 0);
        CHECK.due("5: the tree is gone even so", Look.tree(x), "");
        CHECK.due("5: all stay", x.productionCount(), 3);

        x = Look.bench(2, 1, 0, 1, 1, -1, 1, 0, 10, -1);
        CHECK.due("5: no tree at all", x.removeUseless(), 2);
        CHECK.due("5: empty", x.removeUseless(), 0);

        // Nonterminal 2 is reached only beside 1, which has no tree.
        x = Look.bench(3, 1, 0, 10, -1, -1, 0, 1, 2, -1, 1, 1, 10, -1, 2, 10, -1, -1);
        CHECK.due("5: reached only beside one without trees", x.removeUseless(), 3);
        CHECK.due("5: what stays", Look.grammar(x), "0 10 -1 -1");

        // Each part of a right side is reached, and each as far as it leads.
        x = Look.bench(6, 1, 5, 10, -1, -1, 4, 5, 10, -1, 3, 10, -1, -1, 2, 4, 10, -1,
                1, 10, -1, -1, 0, 1, 2, 3);
        CHECK.due("5: by all three parts", x.removeUseless(), 0);

        // The shortest tree of the grammar has 729 terminals, and all its productions count.
        x = Look.bench(6, 1, 0, 1, 1, 1, 1, 2, 2, 2, 2, 3, 3, 3, 3, 4, 4, 4, 4, 5, 5, 5,
                5, 10, 10, 10);
        CHECK.due("5: of any length", x.removeUseless(), 0);
        x.setStart(3);
        CHECK.due("5: by the start symbol", x.removeUseless(), 3);
        CHECK.due("5: behind it", Look.grammar(x), "3 4 4 4; 4 5 5 5; 5 10 10 10");
    }

    private static void removeUselessKeepsOrder() {
        GrammarAmbiguity x = Look.bench(4, 2, 3, 10, -1, -1, 0, 10, 2, -1, 1, 0, 1, -1,
                2, 11, -1, -1, 2, 3, 3, -1, 0, 1, 10, -1);
        Look.write(x, "ab");
        CHECK.due("5: removed", x.removeUseless(), 2);
        CHECK.due("5: in order", Look.grammar(x), "3 10 -1 -1; 0 10 2 -1; 2 11 -1 -1; 2 3 3 -1");
        CHECK.due("5: the word stays", Look.word(x), "ab");
        CHECK.due("5: renumbered", x.takeTree(0), 2);
        CHECK.due("5: nodes", Look.tree(x), "1@0+2 2@1+1");
    }

    private static void productionSymbol() {
        GrammarAmbiguity x = Look.bench(2, 3, 1, 0, 12, 1, 0, 12, -1, -1, 0, 1, 0, -1);
        CHECK.due("6: three", x.productionCount(), 3);
        CHECK.due("7: all", Look.grammar(x), "1 0 12 1; 0 12 -1 -1; 0 1 0 -1");
        for (int production : new int[] {-1, 3, 24, LEAST, MOST}) {
            CHECK.refused("7: production " + production, x, ARGUMENT,
                    () -> x.productionSymbol(production, 0));
            CHECK.refused("7: production and position", x, ARGUMENT,
                    () -> x.productionSymbol(production, 4));
        }
        for (int position : new int[] {-1, 4, LEAST, MOST}) {
            CHECK.refused("7: position " + position, x, INDEX,
                    () -> x.productionSymbol(0, position));
        }
        x.removeProduction(1);
        CHECK.due("6: two", x.productionCount(), 2);
    }

    private static void setStart() {
        GrammarAmbiguity x = Look.bench(3, 2, 0, 10, -1, -1, 1, 11, -1, -1, 1, 1, 1, -1);
        x.drawTree(3, 1);
        for (int wrong : new int[] {-1, 3, 10, LEAST, MOST}) {
            CHECK.refused("8: " + wrong, x, ARGUMENT, () -> x.setStart(wrong));
        }
        CHECK.due("8: words before", x.wordsOfLength(3, 2), 0);
        CHECK.due("8: previous", x.setStart(1), 0);
        CHECK.due("8: the tree is gone", Look.tree(x), "");
        CHECK.due("8: the word stays", Look.word(x), "a");
        CHECK.due("8: trees", x.treesOfLength(3), 2L);
        CHECK.due("8: words", x.wordsOfLength(3, 2), 1);
        CHECK.due("8: trees of the word", x.treeCount(), 0L);
        x.takeWord(1, 0);
        x.takeTree(0);
        CHECK.due("8: the same again", x.setStart(1), 1);
        CHECK.due("8: the tree is gone again", Look.tree(x), "");
        CHECK.due("8: one without productions", x.setStart(2), 1);
        CHECK.due("8: no trees", x.treesOfLength(1), 0L);
    }

    private static void shortestLength() {
        GrammarAmbiguity x = Look.bench(6, 1, 0, 1, 1, 1, 1, 2, 2, 2, 2, 3, 3, 3, 3, 4, 4, 4,
                4, 5, 5, 5, 5, 10, 10, 10);
        int[] due = {729, 243, 81, 27, 9, 3};
        for (int i = 0; i < 6; i++) {
            CHECK.due("9: of " + i, x.shortestLength(i), due[i]);
        }
        x.addProduction(2, 10, 5, -1);
        CHECK.due("9: by a later production", x.shortestLength(0), 36);
        CHECK.due("9: not of the start alone", x.shortestLength(2), 4);
        x.setStart(3);
        CHECK.due("9: whatever the start", x.shortestLength(0), 36);
        for (int wrong : new int[] {-1, 6, 10, LEAST, MOST}) {
            CHECK.refused("9: " + wrong, x, ARGUMENT, () -> x.shortestLength(wrong));
        }
        GrammarAmbiguity y = Look.bench(3, 1, 0, 0, 10, -1, 1, 0, 10, -1, 1, 10, 10, -1);
        CHECK.due("9: no tree", y.shortestLength(0), 0);
        CHECK.due("9: beside one without", y.shortestLength(1), 2);
        CHECK.due("9: no production", y.shortestLength(2), 0);
        CHECK.refused("9: 3", y, ARGUMENT, () -> y.shortestLength(3));
        GrammarAmbiguity z = Look.pairs();
        CHECK.due("9: before a removal", z.shortestLength(0), 1);
        z.removeProduction(2);
        CHECK.due("9: behind a removal", z.shortestLength(0), 1);
        z.removeProduction(1);
        CHECK.due("9: behind another", z.shortestLength(0), 0);
        z.addProduction(0, 11, 10, 11);
        CHECK.due("9: behind an addition", z.shortestLength(0), 3);
    }
}
