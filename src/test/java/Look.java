/** Makes a workbench for a test, and tells all that can be seen of one without changing it. */
final class Look {
    private Look() {}

    /** Rows of four: a left side and three codes. */
    static GrammarAmbiguity bench(int nonterminals, int terminals, int... productions) {
        GrammarAmbiguity x = new GrammarAmbiguity();
        x.reset(nonterminals, terminals);
        for (int i = 0; i < productions.length; i += 4) {
            x.addProduction(productions[i], productions[i + 1], productions[i + 2],
                    productions[i + 3]);
        }
        return x;
    }

    /** S -> SS | a | b: every word is in the language, with a Catalan number of trees. */
    static GrammarAmbiguity pairs() {
        return bench(1, 2, 0, 0, 0, -1, 0, 10, -1, -1, 0, 11, -1, -1);
    }

    /** Makes the current word of letters: a is terminal 0, b is 1, c is 2. */
    static void write(GrammarAmbiguity x, String letters) {
        x.clearWord();
        for (int i = 0; i < letters.length(); i++) {
            x.append(letters.charAt(i) - 'a');
        }
    }

    static String word(GrammarAmbiguity x) {
        StringBuilder letters = new StringBuilder();
        for (int i = 0; i < x.wordLength(); i++) {
            letters.append((char) ('a' + x.terminalAt(i)));
        }
        return letters.toString();
    }

    /** The nodes as production@begin+length, or nothing if there is no tree. */
    static String tree(GrammarAmbiguity x) {
        if (Check.answer(x::treeSize).startsWith("throws")) {
            return "";
        }
        StringBuilder nodes = new StringBuilder();
        for (int i = 0; i < x.treeSize(); i++) {
            nodes.append(i == 0 ? "" : " ").append(x.treeNode(i, 0)).append('@')
                    .append(x.treeNode(i, 1)).append('+').append(x.treeNode(i, 2));
        }
        return nodes.toString();
    }

    static String grammar(GrammarAmbiguity x) {
        StringBuilder all = new StringBuilder();
        for (int i = 0; i < x.productionCount(); i++) {
            all.append(i == 0 ? "" : "; ");
            for (int j = 0; j < 4; j++) {
                all.append(j == 0 ? "" : " ").append(x.productionSymbol(i, j));
            }
        }
        return all.toString();
    }

    static String slot(GrammarAmbiguity x, int slot) {
        StringBuilder elements = new StringBuilder();
        for (int i = 0; i <= 40; i++) {
            int index = i;
            String previous = Check.answer(() -> x.setElement(slot, index, 0));
            if (previous.startsWith("throws")) {
                return elements.append(i == 0 ? previous : "").toString();
            }
            x.setElement(slot, index, Integer.parseInt(previous));
            elements.append(previous).append(' ');
        }
        return elements.toString();
    }

    static String inShort(GrammarAmbiguity x) {
        return x.productionCount() + " " + x.wordLength() + " " + x.treeCount() + " "
                + Check.answer(x::treeNumber);
    }

    static String at(GrammarAmbiguity x) {
        StringBuilder all = new StringBuilder(grammar(x));
        for (int i = 0; i < 6; i++) {
            int nonterminal = i;
            all.append(" s").append(Check.answer(() -> x.shortestLength(nonterminal)));
        }
        for (int length = 1; length <= 10; length++) {
            all.append(" t").append(x.treesOfLength(length));
        }
        all.append(" w").append(x.wordsOfLength(1, 0) + x.wordsOfLength(1, 3));
        all.append(" word ").append(word(x)).append(" trees ").append(x.treeCount());
        all.append(" tree ").append(tree(x)).append(' ').append(Check.answer(x::treeNumber));
        for (int slot = 0; slot < 3; slot++) {
            all.append(" slot ").append(slot(x, slot));
        }
        return all.toString();
    }
}
