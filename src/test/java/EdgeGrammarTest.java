/** Promises 1 to 9: each sentence that names a boundary case, with a test of its own. */
public final class EdgeGrammarTest {
    private static final Edge EDGE = new Edge("EdgeGrammarTest");

    /** A chain of nonterminals, 3 parts each: the shortest trees have 729, 243, .. terminals. */
    private static final int[] CHAIN = {
        0, 1, 1, 1, 1, 2, 2, 2, 2, 3, 3, 3, 3, 4, 4, 4, 4, 5, 5, 5, 5, 10, 10, 10
    };

    public static void main(String[] args) {
        newGrammar();
        newWordAndTree();
        newSlotsAndSnapshot();
        newCounts();
        newObjectsShareNothing();
        resetNumbers();
        resetGrammar();
        resetWordAndTree();
        resetKeepsSlotsAndSnapshot();
        resetKeepsEmptySlotsAndNoSnapshot();
        addReturnsTheNumber();
        addLeft();
        addFirst();
        addSecond();
        addThird();
        addThirdWithoutSecond();
        addSingleNonterminal();
        addEqual();
        addNearlyEqual();
        addEqualToOneThatWent();
        addToFullGrammar();
        removeRange();
        removeRenumbers();
        removeReturnsWhatIsLeft();
        uselessOfNothing();
        uselessAll();
        uselessNone();
        uselessOfAnyLength();
        uselessByEachPart();
        uselessByLongChains();
        uselessKeepsOrder();
        uselessDiscardsEvenIfNone();
        countOfProductions();
        symbolProduction();
        symbolPosition();
        symbolThatIsNotThere();
        startRange();
        startReturnsPrevious();
        shortestRange();
        shortestGreaterThanEight();
        shortestOfNoTree();
        shortestBesideProductionsWithoutTree();
        EDGE.end();
    }

    private static String grammarOf(GrammarAmbiguity x) {
        return Look.grammar(x);
    }

    // Promise 1.

    /** "A new workbench has 1 nonterminal, 2 terminals and no productions; the start symbol is 0". */
    private static void newGrammar() {
        EDGE.range("1: nonterminal", GrammarAmbiguity::new, 0, 0, Edge.ARGUMENT,
                (x, n) -> x.shortestLength(n));
        EDGE.range("1: terminal", GrammarAmbiguity::new, 0, 1, Edge.ARGUMENT,
                (x, n) -> x.append(n));
        EDGE.due("1: productions", new GrammarAmbiguity().productionCount(), 0);
        for (int production : new int[] {0, -1, 1, Edge.MOST, Edge.LEAST}) {
            EDGE.refused("1: production " + production, GrammarAmbiguity::new, Edge.ARGUMENT,
                    x -> x.productionSymbol(production, 0));
            EDGE.refused("1: removal of " + production, GrammarAmbiguity::new, Edge.ARGUMENT,
                    x -> x.removeProduction(production));
        }
        EDGE.due("1: start symbol", new GrammarAmbiguity().setStart(0), 0);
        EDGE.due("1: nothing is useless", new GrammarAmbiguity().removeUseless(), 0);
        EDGE.due("1: shortest", new GrammarAmbiguity().shortestLength(0), 0);
    }

    /** "the current word is empty; there is no current tree". */
    private static void newWordAndTree() {
        EDGE.due("1: word", new GrammarAmbiguity().wordLength(), 0);
        EDGE.due("1: clear", new GrammarAmbiguity().clearWord(), 0);
        EDGE.refused("1: terminalAt", GrammarAmbiguity::new, Edge.INDEX, x -> x.terminalAt(0));
        EDGE.refused("1: wordRank", GrammarAmbiguity::new, Edge.STATE, x -> x.wordRank());
        EDGE.noTree("1", new GrammarAmbiguity());
        EDGE.refused("1: takeTree", GrammarAmbiguity::new, Edge.ELEMENT, x -> x.takeTree(0));
    }

    /** "All slots are initially empty." and "no snapshot". */
    private static void newSlotsAndSnapshot() {
        for (int i = 0; i < 3; i++) {
            int slot = i;
            EDGE.refused("1: setElement", GrammarAmbiguity::new, Edge.STATE,
                    x -> x.setElement(slot, 0, 0));
            EDGE.refused("1: storeCounts", GrammarAmbiguity::new, Edge.STATE,
                    x -> x.storeCounts(slot, 0));
            EDGE.refused("1: loadWord", GrammarAmbiguity::new, Edge.STATE,
                    x -> x.loadWord(slot, 0, 0));
        }
        EDGE.refused("1: restore", GrammarAmbiguity::new, Edge.STATE, x -> x.restore());
    }

    private static void newCounts() {
        GrammarAmbiguity x = new GrammarAmbiguity();
        EDGE.due("1: trees of the word", x.treeCount(), 0L);
        for (int length = 1; length <= 10; length++) {
            EDGE.due("1: trees of " + length, x.treesOfLength(length), 0L);
        }
        for (int i = 1; i <= 6; i++) {
            int length = i;
            EDGE.due("1: words not in it", x.wordsOfLength(length, 0), 1 << length);
            EDGE.due("1: unambiguous words", x.wordsOfLength(length, 1), 0);
            EDGE.due("1: ambiguous words", x.wordsOfLength(length, 2), 0);
            EDGE.due("1: words in it", x.wordsOfLength(length, 3), 0);
            EDGE.due("1: share", x.unambiguousShare(length), 1.0);
            EDGE.refused("1: average", GrammarAmbiguity::new, Edge.ELEMENT,
                    y -> y.averageTrees(length));
            EDGE.refused("1: ambiguous", GrammarAmbiguity::new, Edge.ELEMENT,
                    y -> y.firstAmbiguous(length));
            EDGE.refused("1: takeWord", GrammarAmbiguity::new, Edge.ELEMENT,
                    y -> y.takeWord(length, 0));
            EDGE.refused("1: drawWord", GrammarAmbiguity::new, Edge.ELEMENT,
                    y -> y.drawWord(0, length));
        }
        for (int i = 1; i <= 8; i++) {
            int length = i;
            EDGE.refused("1: drawTree", GrammarAmbiguity::new, Edge.ELEMENT,
                    y -> y.drawTree(0, length));
        }
    }

    private static void newObjectsShareNothing() {
        GrammarAmbiguity x = new GrammarAmbiguity();
        Edge.full();
        EDGE.due("1: productions of another", x.productionCount(), 0);
        EDGE.due("1: word of another", x.wordLength(), 0);
        EDGE.due("1: slot of another", Edge.slot(x, 0), Edge.NONE);
        EDGE.due("1: snapshot of another", Edge.answer(y -> y.restore(), x), Edge.NONE);
        EDGE.due("1: words of another", x.wordsOfLength(6, 3), 0);
        EDGE.noTree("1: tree of another", x);
    }

    // Promise 2.

    /** "nonterminals: 1 to 6", "terminals: 1 to 3". */
    private static void resetNumbers() {
        for (Edge.Make make : new Edge.Make[] {GrammarAmbiguity::new, Edge::some, Edge::full}) {
            EDGE.range("2: nonterminals", make, 1, 6, Edge.ARGUMENT, (x, n) -> x.reset(n, 1));
            EDGE.range("2: terminals", make, 1, 3, Edge.ARGUMENT, (x, n) -> x.reset(1, n));
            EDGE.refused("2: none of both", make, Edge.ARGUMENT, x -> x.reset(0, 0));
            EDGE.refused("2: the other way round", make, Edge.ARGUMENT, x -> x.reset(3, 6));
        }
    }

    /** "Replaces the grammar by one without productions whose start symbol is nonterminal 0." */
    private static void resetGrammar() {
        int[] powers = {1, 64, 729};
        for (int i = 1; i <= 6; i++) {
            for (int j = 1; j <= 3; j++) {
                int n = i;
                int t = j;
                Edge.Make make = () -> {
                    GrammarAmbiguity x = Edge.full();
                    x.setStart(2);
                    x.reset(n, t);
                    return x;
                };
                String what = "2: reset(" + n + ", " + t + ")";
                EDGE.range(what + " nonterminal", make, 0, n - 1, Edge.ARGUMENT,
                        (x, number) -> x.setStart(number));
                EDGE.range(what + " terminal", make, 0, t - 1, Edge.ARGUMENT,
                        (x, number) -> x.append(number));
                GrammarAmbiguity x = make.make();
                EDGE.due(what + " productions", x.productionCount(), 0);
                EDGE.due(what + " trees", x.treesOfLength(1), 0L);
                EDGE.due(what + " words", x.wordsOfLength(6, 0), powers[t - 1]);
                EDGE.due(what + " start", x.setStart(n - 1), 0);
                EDGE.due(what + " first", x.addProduction(n - 1, 9 + t, -1, -1), 0);
                EDGE.due(what + " its tree", x.treesOfLength(1), 1L);
            }
        }
    }

    /** "The current word becomes empty. Discards the tree." */
    private static void resetWordAndTree() {
        for (Edge.Make make : new Edge.Make[] {Edge::some, Edge::full}) {
            GrammarAmbiguity x = make.make();
            x.reset(3, 3);
            EDGE.due("2: word", x.wordLength(), 0);
            EDGE.due("2: no terminal", Check.answer(() -> x.terminalAt(0)),
                    "throws.IndexOutOfBoundsException");
            EDGE.due("2: trees of the empty word", x.treeCount(), 0L);
            EDGE.noTree("2", x);
        }
    }

    /** "The array slots and the snapshot stay." */
    private static void resetKeepsSlotsAndSnapshot() {
        for (Edge.Make make : new Edge.Make[] {Edge::some, Edge::full}) {
            for (int slot = 0; slot < 3; slot++) {
                GrammarAmbiguity x = make.make();
                x.reset(1, 1);
                EDGE.due("2: slot " + slot, Edge.slot(x, slot), Edge.slot(make.make(), slot));
            }
            GrammarAmbiguity x = make.make();
            x.reset(1, 1);
            x.restore();
            GrammarAmbiguity y = make.make();
            y.restore();
            EDGE.due("2: snapshot", Look.at(x), Look.at(y));
            EDGE.due("2: start of the snapshot", x.setStart(0), 2);
        }
    }

    private static void resetKeepsEmptySlotsAndNoSnapshot() {
        GrammarAmbiguity x = new GrammarAmbiguity();
        x.reset(6, 3);
        for (int slot = 0; slot < 3; slot++) {
            EDGE.due("2: empty slot " + slot, Edge.slot(x, slot), Edge.NONE);
        }
        EDGE.due("2: no snapshot", Edge.answer(y -> y.restore(), x), Edge.NONE);
    }

    // Promise 3.

    /** "Returns the number of the production", which is 0 for the first and 23 for the last. */
    private static void addReturnsTheNumber() {
        GrammarAmbiguity x = Look.bench(3, 3);
        for (int i = 0; i < 24; i++) {
            int[] p = Edge.FULL;
            EDGE.due("3: number", x.addProduction(p[4 * i], p[4 * i + 1], p[4 * i + 2],
                    p[4 * i + 3]), i);
            EDGE.due("3: count", x.productionCount(), i + 1);
        }
    }

    private static Edge.Make empty(int nonterminals, int terminals) {
        return () -> Look.bench(nonterminals, terminals);
    }

    /** "if there is no such nonterminal": the left side is a nonterminal, and no terminal. */
    private static void addLeft() {
        for (int n = 1; n <= 6; n++) {
            EDGE.range("3: left of " + n, empty(n, 3), 0, n - 1, Edge.ARGUMENT,
                    (x, left) -> x.addProduction(left, 10, -1, -1));
        }
        for (int left : new int[] {10, 11, 12}) {
            EDGE.refused("3: left " + left, empty(6, 3), Edge.ARGUMENT,
                    x -> x.addProduction(left, 10, -1, -1));
        }
    }

    /** "if there is no such symbol": 0 up to the nonterminals, 10 up to the terminals. */
    private static void addFirst() {
        for (int n = 1; n <= 6; n++) {
            for (int t = 1; t <= 3; t++) {
                codes("3: first", empty(n, t), n, t, (x, c) -> x.addProduction(0, c, 10, -1));
                codes("3: first of 3", empty(n, t), n, t, (x, c) -> x.addProduction(0, c, 0, 10));
            }
        }
        for (int t = 1; t <= 3; t++) {
            int[] wrong = {-1, 9, 10 + t, -10, Edge.LEAST, Edge.LEAST + 9, Edge.LEAST + 10,
                Edge.MOST, 10 + 256, 10 + 65536};
            for (int code : wrong) {
                EDGE.refused("3: alone " + code, empty(2, t), Edge.ARGUMENT,
                        x -> x.addProduction(0, code, -1, -1));
            }
            for (int code = 10; code < 10 + t; code++) {
                int taken = code;
                EDGE.taken("3: alone " + code, empty(2, t),
                        x -> x.addProduction(0, taken, -1, -1));
            }
        }
    }

    private static void addSecond() {
        for (int n = 1; n <= 6; n++) {
            for (int t = 1; t <= 3; t++) {
                codes("3: second", empty(n, t), n, t, (x, c) -> x.addProduction(0, 0, c, -1));
                codes("3: second of 3", empty(n, t), n, t, (x, c) -> x.addProduction(0, 0, c, 0));
            }
        }
        EDGE.taken("3: no second", empty(1, 1), x -> x.addProduction(0, 10, -1, -1));
        EDGE.refused("3: second -2", empty(1, 1), Edge.ARGUMENT,
                x -> x.addProduction(0, 10, -2, -1));
    }

    private static void addThird() {
        for (int n = 1; n <= 6; n++) {
            for (int t = 1; t <= 3; t++) {
                codes("3: third", empty(n, t), n, t, (x, c) -> x.addProduction(0, 0, 10, c));
            }
        }
        EDGE.taken("3: no third", empty(1, 1), x -> x.addProduction(0, 0, 10, -1));
        EDGE.refused("3: third -2", empty(1, 1), Edge.ARGUMENT,
                x -> x.addProduction(0, 0, 10, -2));
    }

    /** Codes from 0 to the last nonterminal and from 10 to the last terminal, but for -1. */
    private static void codes(String what, Edge.Make make, int n, int t, Edge.With call) {
        for (int code = -3; code <= 16; code++) {
            boolean good = code >= 0 && code < n || code >= 10 && code < 10 + t;
            int tried = code;
            String whole = what + " " + code + " of " + n + " and " + t;
            if (good) {
                EDGE.taken(whole, make, x -> call.to(x, tried));
            } else if (code != -1) {
                EDGE.due(whole, Edge.answer(x -> call.to(x, tried), make.make()),
                        "throws.IllegalArgumentException");
            }
        }
        int[] far = {Edge.LEAST, Edge.LEAST + 9, Edge.LEAST + 10, Edge.MOST, Edge.MOST - 9,
            n, 9, 10 + t, 256, 65536, 65546, -65526};
        for (int code : far) {
            EDGE.refused(what + " " + code, make, Edge.ARGUMENT, x -> call.to(x, code));
        }
    }

    /** "if second is -1 and third is not". */
    private static void addThirdWithoutSecond() {
        for (int third : new int[] {0, 1, 2, 10, 11, 12, -2, Edge.LEAST, Edge.MOST}) {
            EDGE.refused("3: third alone " + third, empty(2, 2), Edge.ARGUMENT,
                    x -> x.addProduction(0, 10, -1, third));
            EDGE.refused("3: third behind a nonterminal " + third, empty(2, 2), Edge.ARGUMENT,
                    x -> x.addProduction(0, 0, -1, third));
        }
        EDGE.refused("3: no first", empty(2, 2), Edge.ARGUMENT,
                x -> x.addProduction(0, -1, 10, 10));
        EDGE.refused("3: nothing", empty(2, 2), Edge.ARGUMENT,
                x -> x.addProduction(0, -1, -1, -1));
    }

    /** "if the right side is a single nonterminal". */
    private static void addSingleNonterminal() {
        for (int nonterminal = 0; nonterminal < 6; nonterminal++) {
            int code = nonterminal;
            EDGE.refused("3: single " + code, empty(6, 3), Edge.ARGUMENT,
                    x -> x.addProduction(0, code, -1, -1));
        }
        EDGE.taken("3: a single terminal", empty(6, 3), x -> x.addProduction(0, 12, -1, -1));
    }

    /** "or if an equal production exists". */
    private static void addEqual() {
        Edge.Make make = () -> Look.bench(2, 2, 0, 10, -1, -1, 1, 0, 11, -1, 1, 0, 11, 1);
        EDGE.refused("3: equal, one", make, Edge.ARGUMENT, x -> x.addProduction(0, 10, -1, -1));
        EDGE.refused("3: equal, two", make, Edge.ARGUMENT, x -> x.addProduction(1, 0, 11, -1));
        EDGE.refused("3: equal, three", make, Edge.ARGUMENT, x -> x.addProduction(1, 0, 11, 1));
        for (int i = 0; i < 24; i++) {
            int[] p = Edge.FULL;
            int at = 4 * i;
            EDGE.refused("3: equal to " + i, Edge::full, Edge.ARGUMENT,
                    x -> x.addProduction(p[at], p[at + 1], p[at + 2], p[at + 3]));
        }
    }

    private static void addNearlyEqual() {
        GrammarAmbiguity x = Look.bench(2, 2, 1, 0, 11, 1);
        EDGE.due("3: another left side", x.addProduction(0, 0, 11, 1), 1);
        EDGE.due("3: another first", x.addProduction(1, 1, 11, 1), 2);
        EDGE.due("3: another second", x.addProduction(1, 0, 10, 1), 3);
        EDGE.due("3: another third", x.addProduction(1, 0, 11, 0), 4);
        EDGE.due("3: no third", x.addProduction(1, 0, 11, -1), 5);
        EDGE.due("3: another order", x.addProduction(1, 11, 0, -1), 6);
        EDGE.due("3: all", grammarOf(x), "1 0 11 1; 0 0 11 1; 1 1 11 1; 1 0 10 1; 1 0 11 0; "
                + "1 0 11 -1; 1 11 0 -1");
    }

    private static void addEqualToOneThatWent() {
        GrammarAmbiguity x = Look.bench(1, 1, 0, 10, -1, -1, 0, 0, 10, -1);
        x.removeProduction(1);
        EDGE.due("3: equal to the removed last one", x.addProduction(0, 0, 10, -1), 1);
        x.removeProduction(0);
        EDGE.due("3: equal to the removed first one", x.addProduction(0, 10, -1, -1), 1);
        x.setStart(0);
        x.reset(1, 1);
        EDGE.due("3: equal to one before reset", x.addProduction(0, 10, -1, -1), 0);
        x.reset(2, 1);
        x.addProduction(1, 10, -1, -1);
        x.removeUseless();
        EDGE.due("3: equal to a useless one", x.addProduction(1, 10, -1, -1), 0);
        x.snapshot();
        x.addProduction(0, 10, -1, -1);
        x.restore();
        EDGE.due("3: equal to one before restore", x.addProduction(0, 10, -1, -1), 1);
    }

    /** "IllegalStateException if there are 24 productions". */
    private static void addToFullGrammar() {
        EDGE.refused("3: a 25th of one symbol", () -> {
            GrammarAmbiguity x = Edge.full();
            x.removeProduction(2);
            x.addProduction(0, 0, 0, 0);
            return x;
        }, Edge.STATE, x -> x.addProduction(1, 11, -1, -1));
        EDGE.refused("3: a 25th of two", Edge::full, Edge.STATE,
                x -> x.addProduction(2, 0, 1, -1));
        EDGE.refused("3: a 25th of three", Edge::full, Edge.STATE,
                x -> x.addProduction(0, 0, 0, 0));
        GrammarAmbiguity x = Edge.full();
        x.removeProduction(0);
        EDGE.due("3: a 24th again", x.addProduction(0, 1, 2, -1), 23);
        EDGE.due("3: none behind it", Check.answer(() -> x.addProduction(0, 0, 0, 0)), Edge.NONE);
        x.reset(3, 3);
        EDGE.due("3: after reset", x.addProduction(0, 0, 0, 0), 0);
        x.restore();
        EDGE.due("3: after restore", x.addProduction(0, 0, 0, 0), 6);
    }

    // Promise 4.

    /** "if there is no such production". */
    private static void removeRange() {
        EDGE.range("4: of 24", Edge::full, 0, 23, Edge.ARGUMENT, (x, n) -> x.removeProduction(n));
        EDGE.range("4: of 4", Edge::some, 0, 3, Edge.ARGUMENT, (x, n) -> x.removeProduction(n));
        EDGE.range("4: of 1", () -> Look.bench(1, 1, 0, 10, -1, -1), 0, 0, Edge.ARGUMENT,
                (x, n) -> x.removeProduction(n));
        for (int number : new int[] {0, -1, 1, Edge.LEAST, Edge.MOST}) {
            EDGE.refused("4: of none, " + number, empty(1, 1), Edge.ARGUMENT,
                    x -> x.removeProduction(number));
        }
    }

    /** "The productions after it are renumbered." */
    private static void removeRenumbers() {
        String[] due = {
            "0 0 10 -1; 0 10 0 -1", "0 10 -1 -1; 0 10 0 -1", "0 10 -1 -1; 0 0 10 -1"
        };
        for (int i = 0; i < 3; i++) {
            GrammarAmbiguity x = Look.bench(1, 1, 0, 10, -1, -1, 0, 0, 10, -1, 0, 10, 0, -1);
            x.removeProduction(i);
            EDGE.due("4: renumbered behind " + i, grammarOf(x), due[i]);
        }
        String all = grammarOf(Edge.full());
        GrammarAmbiguity x = Edge.full();
        x.removeProduction(0);
        EDGE.due("4: 23 renumbered", grammarOf(x), all.substring(all.indexOf("; ") + 2));
        x = Edge.full();
        x.removeProduction(23);
        EDGE.due("4: none renumbered", grammarOf(x), all.substring(0, all.lastIndexOf("; ")));
    }

    /** "Returns the number of productions that are left." */
    private static void removeReturnsWhatIsLeft() {
        GrammarAmbiguity x = Edge.full();
        for (int left = 23; left >= 0; left--) {
            EDGE.due("4: left", x.removeProduction(left / 2), left);
            EDGE.due("4: count", x.productionCount(), left);
        }
        EDGE.due("4: no trees", x.treesOfLength(1), 0L);
    }

    // Promise 5.

    private static void uselessOfNothing() {
        GrammarAmbiguity x = Look.bench(6, 3);
        EDGE.due("5: of an empty grammar", x.removeUseless(), 0);
        EDGE.due("5: still empty", x.productionCount(), 0);
    }

    /** "Returns the number of productions that were removed": all 24. */
    private static void uselessAll() {
        GrammarAmbiguity x = Edge.full();
        x.reset(4, 3);
        Edge.add(x, Edge.FULL);
        x.setStart(3);
        EDGE.due("5: none is reached", x.removeUseless(), 24);
        EDGE.due("5: none is left", x.productionCount(), 0);
        EDGE.due("5: room again", x.addProduction(3, 10, -1, -1), 0);
        GrammarAmbiguity y = Look.bench(5, 1);
        for (int i = 0; i < 24; i++) {
            y.addProduction(i / 5, i % 5, 10, -1);
        }
        EDGE.due("5: none has a tree", y.removeUseless(), 24);
        // The start symbol has no tree, so others that have one do not help.
        y.reset(2, 1);
        Edge.add(y, 0, 0, 1, -1, 1, 10, -1, -1);
        EDGE.due("5: no tree of the grammar", y.removeUseless(), 2);
    }

    private static void uselessNone() {
        GrammarAmbiguity x = Edge.full();
        String before = grammarOf(x);
        EDGE.due("5: none of 24", x.removeUseless(), 0);
        EDGE.due("5: all 24", grammarOf(x), before);
    }

    /** "that occur in no tree of the grammar, of any length". */
    private static void uselessOfAnyLength() {
        GrammarAmbiguity x = Look.bench(6, 1, CHAIN);
        EDGE.due("5: in a tree of 729", x.removeUseless(), 0);
        x.addProduction(0, 10, -1, -1);
        EDGE.due("5: with a short tree, too", x.removeUseless(), 0);
        // The last production is in a tree of 11 terminals, and in none of fewer.
        x.reset(4, 1);
        Edge.add(x, 0, 10, -1, -1, 0, 1, 1, 10, 1, 2, 2, 10, 2, 10, 10, -1);
        EDGE.due("5: shortest of all", x.treesOfLength(10), 0L);
        EDGE.due("5: in a tree of 11", x.removeUseless(), 0);
        x.removeProduction(3);
        EDGE.due("5: then in none", x.removeUseless(), 2);
        EDGE.due("5: what is left", grammarOf(x), "0 10 -1 -1");
    }

    /** A production is in a tree by way of the first, the second or the third part alone. */
    private static void uselessByEachPart() {
        int[][] sides = {{1, 10, 10}, {10, 1, 10}, {10, 10, 1}, {1, 10, -1}, {10, 1, -1}};
        for (int[] side : sides) {
            GrammarAmbiguity x = Look.bench(3, 1, 1, 10, -1, -1, 2, 10, -1, -1);
            x.addProduction(0, side[0], side[1], side[2]);
            EDGE.due("5: one is not reached", x.removeUseless(), 1);
            EDGE.due("5: one is", x.productionSymbol(0, 0), 1);
            // The same part, without a tree, takes the whole production with it.
            GrammarAmbiguity y = Look.bench(3, 1, 0, 10, -1, -1);
            y.addProduction(0, side[0], side[1], side[2]);
            EDGE.due("5: a part without a tree", y.removeUseless(), 1);
            EDGE.due("5: what is left", grammarOf(y), "0 10 -1 -1");
        }
    }

    /** All six nonterminals, one by way of the other, in whichever order they were added. */
    private static void uselessByLongChains() {
        int[][] orders = {{0, 1, 2, 3, 4, 5}, {5, 4, 3, 2, 1, 0}, {3, 0, 5, 2, 4, 1}};
        for (int[] order : orders) {
            GrammarAmbiguity x = Look.bench(6, 1);
            for (int i : order) {
                Edge.add(x, CHAIN[4 * i], CHAIN[4 * i + 1], CHAIN[4 * i + 2], CHAIN[4 * i + 3]);
            }
            EDGE.due("5: all of the chain", x.removeUseless(), 0);
            EDGE.due("9: its length", x.shortestLength(0), 729);
            x.setStart(5);
            EDGE.due("5: the end of the chain", x.removeUseless(), 5);
            EDGE.due("5: is left", grammarOf(x), "5 10 10 10");
        }
    }

    /** "The other productions keep their order and are renumbered." */
    private static void uselessKeepsOrder() {
        GrammarAmbiguity x = Look.bench(4, 2, 3, 10, -1, -1, 0, 0, 0, -1, 2, 2, 10, -1,
                0, 11, -1, -1, 0, 2, 0, -1, 0, 10, -1, -1, 3, 0, 0, -1);
        EDGE.due("5: four of seven", x.removeUseless(), 4);
        EDGE.due("5: three of seven", grammarOf(x), "0 0 0 -1; 0 11 -1 -1; 0 10 -1 -1");
        Look.write(x, "ab");
        x.takeTree(0);
        EDGE.due("5: new numbers", Look.tree(x), "0@0+2 2@0+1 1@1+1");
        EDGE.due("5: then none", x.removeUseless(), 0);
    }

    /** "Discards the tree, even if no production is removed." */
    private static void uselessDiscardsEvenIfNone() {
        GrammarAmbiguity x = Edge.full();
        x.removeUseless();
        EDGE.noTree("5: none removed", x);
        EDGE.due("5: the word stays", Look.word(x), "abcabcab");
        GrammarAmbiguity y = Edge.some();
        EDGE.due("5: one removed", y.removeUseless(), 1);
        EDGE.noTree("5: one removed", y);
        EDGE.due("5: the word stays then", Look.word(y), "abaa");
    }

    // Promises 6 and 7.

    private static void countOfProductions() {
        EDGE.due("6: none", new GrammarAmbiguity().productionCount(), 0);
        EDGE.due("6: one", Look.bench(1, 1, 0, 10, -1, -1).productionCount(), 1);
        EDGE.due("6: 24", Edge.full().productionCount(), 24);
    }

    /** "IllegalArgumentException if there is no such production". */
    private static void symbolProduction() {
        EDGE.range("7: of 24", Edge::full, 0, 23, Edge.ARGUMENT,
                (x, n) -> x.productionSymbol(n, 0));
        EDGE.range("7: of 4", Edge::some, 0, 3, Edge.ARGUMENT,
                (x, n) -> x.productionSymbol(n, 3));
        EDGE.refused("7: of none", empty(1, 1), Edge.ARGUMENT, x -> x.productionSymbol(0, 0));
        EDGE.refused("7: of one removed", () -> {
            GrammarAmbiguity x = Edge.full();
            x.removeProduction(0);
            return x;
        }, Edge.ARGUMENT, x -> x.productionSymbol(23, 0));
    }

    /** "IndexOutOfBoundsException if the position is not from 0 to 3". */
    private static void symbolPosition() {
        EDGE.range("7: position of the first", Edge::full, 0, 3, Edge.INDEX,
                (x, n) -> x.productionSymbol(0, n));
        EDGE.range("7: position of the last", Edge::full, 0, 3, Edge.INDEX,
                (x, n) -> x.productionSymbol(23, n));
    }

    /** "or -1 if the right side has no such symbol". */
    private static void symbolThatIsNotThere() {
        GrammarAmbiguity x = Look.bench(6, 3, 5, 12, -1, -1, 5, 5, 12, -1, 5, 12, 5, 12);
        int[][] due = {{5, 12, -1, -1}, {5, 5, 12, -1}, {5, 12, 5, 12}};
        for (int i = 0; i < 3; i++) {
            for (int j = 0; j < 4; j++) {
                EDGE.due("7: " + i + ", " + j, x.productionSymbol(i, j), due[i][j]);
            }
        }
    }

    // Promises 8 and 9.

    private static void startRange() {
        for (int n = 1; n <= 6; n++) {
            EDGE.range("8: of " + n, empty(n, 3), 0, n - 1, Edge.ARGUMENT,
                    (x, number) -> x.setStart(number));
        }
        EDGE.range("8: with a tree", Edge::some, 0, 1, Edge.ARGUMENT,
                (x, number) -> x.setStart(number));
        for (int code : new int[] {9, 10, 11, 12}) {
            EDGE.refused("8: code " + code, Edge::full, Edge.ARGUMENT, x -> x.setStart(code));
        }
    }

    /** "Returns the previous start symbol." */
    private static void startReturnsPrevious() {
        GrammarAmbiguity x = Look.bench(6, 1);
        int previous = 0;
        for (int next : new int[] {5, 5, 0, 0, 3, 5, 1}) {
            EDGE.due("8: before " + next, x.setStart(next), previous);
            previous = next;
        }
        GrammarAmbiguity y = Edge.some();
        EDGE.due("8: the same", y.setStart(1), 1);
        EDGE.noTree("8: the same", y);
        EDGE.due("8: the word stays", Look.word(y), "abaa");
    }

    private static void shortestRange() {
        for (int n = 1; n <= 6; n++) {
            EDGE.range("9: of " + n, empty(n, 3), 0, n - 1, Edge.ARGUMENT,
                    (x, number) -> x.shortestLength(number));
        }
        EDGE.range("9: with a tree", Edge::full, 0, 2, Edge.ARGUMENT,
                (x, number) -> x.shortestLength(number));
        EDGE.refused("9: a terminal", Edge::full, Edge.ARGUMENT, x -> x.shortestLength(10));
    }

    /** "the length, which can be greater than 8": up to 3 to the sixth. */
    private static void shortestGreaterThanEight() {
        GrammarAmbiguity x = Look.bench(6, 1, CHAIN);
        int due = 729;
        for (int nonterminal = 0; nonterminal < 6; nonterminal++) {
            EDGE.due("9: shortest of " + nonterminal, x.shortestLength(nonterminal), due);
            due /= 3;
        }
        // From the end of the chain on, so that each round finds all.
        GrammarAmbiguity y = Look.bench(6, 1);
        for (int i = 5; i >= 0; i--) {
            Edge.add(y, CHAIN[4 * i], CHAIN[4 * i + 1], CHAIN[4 * i + 2], CHAIN[4 * i + 3]);
        }
        EDGE.due("9: in the other order", y.shortestLength(0), 729);
        for (int length = 7; length <= 11; length++) {
            GrammarAmbiguity z = ofLength(length);
            EDGE.due("9: of length " + length, z.shortestLength(0), length);
            EDGE.due("9: trees of 10", z.treesOfLength(10), length == 10 ? 1L : 0L);
        }
    }

    /** One tree, with 7 to 11 terminals. */
    private static GrammarAmbiguity ofLength(int length) {
        GrammarAmbiguity x = Look.bench(5, 1);
        Edge.add(x, 1, 10, 10, 10, 2, 10, 10, -1, 3, 10, -1, -1, 4, 1, 1, 1);
        int[][] sides = {{1, 1, 3}, {1, 1, 2}, {1, 1, 1}, {4, 3, -1}, {4, 2, -1}};
        int[] side = sides[length - 7];
        x.addProduction(0, side[0], side[1], side[2]);
        return x;
    }

    /** "0 if the nonterminal has no tree". */
    private static void shortestOfNoTree() {
        GrammarAmbiguity x = Look.bench(4, 1, 0, 0, 10, -1, 1, 10, 0, 10, 2, 10, -1, -1);
        EDGE.due("9: only of itself", x.shortestLength(0), 0);
        EDGE.due("9: only of one without", x.shortestLength(1), 0);
        EDGE.due("9: one terminal", x.shortestLength(2), 1);
        EDGE.due("9: no production", x.shortestLength(3), 0);
        x.addProduction(0, 3, 10, 10);
        EDGE.due("9: of one without productions", x.shortestLength(0), 0);
        x.addProduction(3, 10, 10, 10);
        EDGE.due("9: then five", x.shortestLength(0), 5);
        EDGE.due("9: then seven", x.shortestLength(1), 7);
        x.removeProduction(4);
        EDGE.due("9: then none again", x.shortestLength(1), 0);
    }

    /** A production without a tree does not take the trees of the others, before it or behind. */
    private static void shortestBesideProductionsWithoutTree() {
        GrammarAmbiguity x = Look.bench(3, 1, 0, 10, 10, -1, 0, 2, 10, -1, 0, 10, 10, 2,
                1, 2, 2, 2, 1, 10, 0, -1, 1, 0, 2, -1);
        EDGE.due("9: behind it", x.shortestLength(0), 2);
        EDGE.due("9: on both sides", x.shortestLength(1), 3);
        EDGE.due("9: none", x.shortestLength(2), 0);
        EDGE.due("5: five of six", x.removeUseless(), 5);
        EDGE.due("5: one of six", grammarOf(x), "0 10 10 -1");
    }
}
