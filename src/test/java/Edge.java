import java.util.NoSuchElementException;

/**
 * Looks at the edges of what the methods take. Each look is at a workbench of its own, which is made
 * for it, so that none sees more than the 512 calls for which the document promises anything.
 */
final class Edge {
    /** Makes a workbench; the same one each time. */
    interface Make {
        GrammarAmbiguity make();
    }

    interface Do {
        void to(GrammarAmbiguity x);
    }

    interface With {
        void to(GrammarAmbiguity x, int number);
    }

    private interface View {
        String see(GrammarAmbiguity x);
    }

    static final Class<?> ARGUMENT = IllegalArgumentException.class;
    static final Class<?> STATE = IllegalStateException.class;
    static final Class<?> INDEX = IndexOutOfBoundsException.class;
    static final Class<?> ELEMENT = NoSuchElementException.class;
    static final int LEAST = Integer.MIN_VALUE;
    static final int MOST = Integer.MAX_VALUE;
    static final String NONE = "throws.IllegalStateException";

    /** The methods that read the state: they can be asked before a call and behind it. */
    private static final View[] READS = {
        Edge::grammar, Edge::counts, Edge::wordAndTree,
        x -> slot(x, 0), x -> slot(x, 1), x -> slot(x, 2)
    };

    /** What only shows in what later calls do, which change the workbench. */
    private static final View[] LATER = {Edge::symbols, Edge::snapshot};

    private final Check check;

    Edge(String test) {
        check = new Check(test);
    }

    void due(String what, Object got, Object want) {
        check.due(what, got, want);
    }

    void end() {
        check.end();
    }

    static String answer(Do call, GrammarAmbiguity x) {
        return Check.answer(() -> {
            call.to(x);
            return "taken";
        });
    }

    void taken(String what, Make make, Do call) {
        due(what, answer(call, make.make()), "taken");
    }

    /** The call throws just this, and whatever reads the state answers behind it as before it. */
    void refused(String what, Make make, Class<?> exception, Do call) {
        String due = "throws." + exception.getSimpleName();
        for (View view : READS) {
            GrammarAmbiguity x = make.make();
            String before = view.see(x);
            due(what, answer(call, x), due);
            due("what is read behind " + what, view.see(x), before);
        }
        for (View view : LATER) {
            GrammarAmbiguity x = make.make();
            due(what, answer(call, x), due);
            due("what is done behind " + what, view.see(x), view.see(make.make()));
        }
    }

    /** The numbers from low to high are taken, and no other. */
    void range(String what, Make make, int low, int high, Class<?> exception, With call) {
        for (int number = low; number <= high; number++) {
            int taken = number;
            taken(what + " " + number, make, x -> call.to(x, taken));
        }
        for (int number : outside(low, high)) {
            refused(what + " " + number, make, exception, x -> call.to(x, number));
        }
    }

    /** The neighbours, the far ones, and those that a byte or a short would make good ones of. */
    static int[] outside(int low, int high) {
        return new int[] {low - 1, high + 1, LEAST, LEAST + 1, MOST - 1, MOST, low + 256,
            high - 256, low + 65536, high - 65536};
    }

    /** The state of the tree behind a call: its nodes, or that there is none, by all methods. */
    static String tree(GrammarAmbiguity x) {
        StringBuilder all = new StringBuilder(Check.answer(x::treeNumber));
        all.append(' ').append(Check.answer(x::treeSize));
        for (int node = 0; node < 16; node++) {
            for (int what = 0; what < 3; what++) {
                int a = node;
                int b = what;
                all.append(' ').append(Check.answer(() -> x.treeNode(a, b)));
            }
        }
        return all.toString();
    }

    /** Whether all methods that tell of the current tree say that there is none. */
    void noTree(String what, GrammarAmbiguity x) {
        due(what + ": treeNumber", Check.answer(x::treeNumber), NONE);
        due(what + ": treeSize", Check.answer(x::treeSize), NONE);
        due(what + ": treeNode", Check.answer(() -> x.treeNode(0, 0)), NONE);
    }

    private static String grammar(GrammarAmbiguity x) {
        StringBuilder all = new StringBuilder(Look.grammar(x));
        all.append(" of ").append(x.productionCount());
        for (int i = 0; i < 7; i++) {
            int nonterminal = i;
            all.append(' ').append(Check.answer(() -> x.shortestLength(nonterminal)));
        }
        return all.toString();
    }

    private static String counts(GrammarAmbiguity x) {
        StringBuilder all = new StringBuilder();
        for (int length = 1; length <= 10; length++) {
            all.append(x.treesOfLength(length)).append(' ');
        }
        for (int i = 1; i <= 6; i++) {
            int length = i;
            for (int trees = 0; trees <= 3; trees++) {
                all.append(x.wordsOfLength(length, trees)).append(' ');
            }
            all.append(x.unambiguousShare(length)).append(' ');
            all.append(Check.answer(() -> x.averageTrees(length))).append(' ');
        }
        all.append(x.treeCount()).append(' ').append(Check.answer(x::wordRank));
        return all.toString();
    }

    private static String wordAndTree(GrammarAmbiguity x) {
        StringBuilder all = new StringBuilder().append(x.wordLength());
        for (int i = 0; i < 9; i++) {
            int position = i;
            all.append(' ').append(Check.answer(() -> x.terminalAt(position)));
        }
        return all.append(' ').append(tree(x)).toString();
    }

    /** The elements of a slot and, where there is one, whether they are ints. */
    static String slot(GrammarAmbiguity x, int slot) {
        String elements = Look.slot(x, slot);
        if (elements.startsWith("throws")) {
            return elements;
        }
        int first = x.setElement(slot, 0, 70000);
        return elements + (x.setElement(slot, 0, first) == 70000 ? "ints" : "shorts");
    }

    /** The start symbol, and how many nonterminals and terminals there are. */
    private static String symbols(GrammarAmbiguity x) {
        StringBuilder all = new StringBuilder();
        all.append(x.clearWord());
        for (int i = 0; i < 7; i++) {
            int number = i;
            all.append(' ').append(Check.answer(() -> x.setStart(number)));
            all.append(' ').append(Check.answer(() -> x.append(number)));
        }
        return all.toString();
    }

    private static String snapshot(GrammarAmbiguity x) {
        StringBuilder all = new StringBuilder(answer(y -> y.restore(), x));
        all.append(' ').append(grammar(x)).append(' ').append(counts(x));
        all.append(' ').append(wordAndTree(x)).append(' ').append(symbols(x));
        return all.toString();
    }

    // Workbenches to begin with.

    /** Something of everything: a grammar with start symbol 1, a tree, a snapshot, two arrays. */
    static GrammarAmbiguity some() {
        GrammarAmbiguity x = other();
        x.snapshot();
        x.reset(2, 2);
        add(x, 1, 1, 1, -1, 1, 10, -1, -1, 1, 11, -1, -1, 0, 1, 10, -1);
        x.setStart(1);
        x.allocate(0, true, 9);
        x.allocate(1, false, 3);
        for (int i = 0; i < 9; i++) {
            x.setElement(0, i, i % 2);
        }
        x.setElement(1, 2, -5);
        Look.write(x, "abaa");
        x.takeTree(3);
        return x;
    }

    /** 24 productions, 8 terminals, a tree, a snapshot, two arrays of 40 and one of none. */
    static GrammarAmbiguity full() {
        GrammarAmbiguity x = other();
        x.snapshot();
        x.reset(3, 3);
        add(x, FULL);
        x.allocate(0, true, 40);
        x.allocate(1, false, 40);
        x.allocate(2, true, 0);
        for (int i = 0; i < 40; i++) {
            x.setElement(0, i, 2 - i % 3);
            x.setElement(1, i, i % 3);
        }
        Look.write(x, "abcabcab");
        x.takeTree(FULL_TREE);
        return x;
    }

    /** With these, abcabcab has 117796352 trees, and there are more of length 8 than ints. */
    static final int[] FULL = {
        0, 1, 2, -1, 0, 2, 1, -1, 1, 11, -1, -1, 1, 1, 1, -1, 1, 2, 0, -1, 0, 0, 0, -1,
        2, 0, 0, -1, 0, 1, 1, -1, 1, 0, 1, -1, 0, 0, 1, -1, 1, 12, -1, -1, 0, 2, 0, -1,
        1, 10, -1, -1, 2, 11, -1, -1, 0, 11, -1, -1, 2, 10, -1, -1, 0, 10, -1, -1, 0, 0, 2, -1,
        1, 0, 2, -1, 0, 12, -1, -1, 1, 1, 0, -1, 1, 0, 0, -1, 2, 12, -1, -1, 0, 1, 0, -1
    };
    static final long FULL_TREE = 98765432L;

    private static GrammarAmbiguity other() {
        GrammarAmbiguity x = Look.bench(3, 3, 2, 0, 2, 1, 2, 12, -1, -1, 0, 10, -1, -1,
                1, 11, -1, -1, 2, 12, 2, -1, 2, 10, 2, 11);
        x.setStart(2);
        Look.write(x, "accb");
        return x;
    }

    /** Rows of four: a left side and three codes. */
    static void add(GrammarAmbiguity x, int... productions) {
        for (int i = 0; i < productions.length; i += 4) {
            x.addProduction(productions[i], productions[i + 1], productions[i + 2],
                    productions[i + 3]);
        }
    }

    // Seeds. As the factor is odd, each y comes of one seed.

    static final long FACTOR = 6364136223846793005L;
    static final long SUMMAND = 1442695040888963407L;

    /** Seeds and the halves of their y, worked out elsewhere in whole numbers modulo 2^64. */
    static final long[][] HALVES = {
        {0L, 721347520444481703L},
        {1L, 3903415632367878206L},
        {2L, 7085483744291274708L},
        {-1L, 6762651445375861009L},
        {-2L, 3580583333452464506L},
        {3L, 1044179819359895403L},
        {12L, 2012676716106136501L},
        {4611686018427387904L, 3027190529658175655L},
        {-4611686018427387904L, 7638876548085563559L},
        {Long.MAX_VALUE, 2150965426948473105L},
        {9223372036854775806L, 8192269351879852410L},
        {Long.MIN_VALUE, 5333033538871869607L},
        {-9223372036854775807L, 8515101650795266110L},
        {4294967296L, 3480575895275815079L},
        {-4294967296L, 7185491182467924135L},
        {2147483648L, 6712647726287536295L}
    };

    /** The seed for which seed * FACTOR + SUMMAND is y in long arithmetic. */
    static long seedFor(long y) {
        long inverse = 1;
        for (int i = 0; i < 7; i++) {
            inverse *= 2 - FACTOR * inverse;
        }
        return (y - SUMMAND) * inverse;
    }
}
