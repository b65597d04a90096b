/** Promises 28 to 31: each sentence that names a boundary case, with a test of its own. */
public final class EdgeArrayTest {
    private static final Edge EDGE = new Edge("EdgeArrayTest");
    private static final int LEAST = Edge.LEAST;
    private static final int MOST = Edge.MOST;

    public static void main(String[] args) {
        allocateSlot();
        allocateLength();
        allocateFillsWithZero();
        allocateEmptyArray();
        allocateFullArray();
        elementSlot();
        elementOfEmptySlot();
        elementIndex();
        elementReturnsPrevious();
        elementNarrowsShorts();
        elementKeepsInts();
        countsSlot();
        countsIntoEmptySlot();
        countsIndex();
        countsIntoShortArrays();
        countsValues();
        countsOfNoWords();
        loadSlot();
        loadCount();
        loadFromEmptySlot();
        loadIndexes();
        loadIndexesThatWrap();
        loadNothing();
        loadElements();
        loadNarrowedElements();
        loadFullWord();
        EDGE.end();
    }

    /** A workbench with one array of a length, filled with terminal 1. */
    private static Edge.Make array(boolean wide, int length) {
        return () -> {
            GrammarAmbiguity x = Look.pairs();
            Look.write(x, "aba");
            x.takeTree(1);
            x.allocate(1, wide, length);
            for (int i = 0; i < length; i++) {
                x.setElement(1, i, 1);
            }
            return x;
        };
    }

    /** Far below and far above what an array with this many indexes can have. */
    private static int[] wrongIndexes(int indexes) {
        return new int[] {-1, indexes, indexes + 1, LEAST, LEAST + 1, MOST, MOST - 1, MOST - 4,
            MOST - 5, MOST - 6, MOST - 7, MOST - 8, 256, 65536, -256, -65536};
    }

    // Promise 28.

    /** "the slot, 0 to 2". */
    private static void allocateSlot() {
        for (Edge.Make make : new Edge.Make[] {GrammarAmbiguity::new, Edge::some, Edge::full}) {
            EDGE.range("28: slot", make, 0, 2, Edge.ARGUMENT, (x, n) -> x.allocate(n, true, 1));
            EDGE.range("28: slot", make, 0, 2, Edge.ARGUMENT, (x, n) -> x.allocate(n, false, 1));
        }
    }

    /** "or the length is negative or above 40". */
    private static void allocateLength() {
        for (Edge.Make make : new Edge.Make[] {GrammarAmbiguity::new, Edge::some, Edge::full}) {
            for (int i = 0; i < 3; i++) {
                int slot = i;
                EDGE.range("28: ints", make, 0, 40, Edge.ARGUMENT,
                        (x, n) -> x.allocate(slot, true, n));
                EDGE.range("28: shorts", make, 0, 40, Edge.ARGUMENT,
                        (x, n) -> x.allocate(slot, false, n));
            }
            EDGE.refused("28: both", make, Edge.ARGUMENT, x -> x.allocate(3, true, 41));
            EDGE.refused("28: both, below", make, Edge.ARGUMENT, x -> x.allocate(-1, true, -1));
        }
    }

    /** "Stores a new array, filled with 0": of an old one nothing stays. */
    private static void allocateFillsWithZero() {
        for (int length = 1; length <= 40; length++) {
            GrammarAmbiguity x = Edge.full();
            x.allocate(0, true, length);
            EDGE.due("28: new ints", Edge.slot(x, 0), "0 ".repeat(length) + "ints");
            x.allocate(0, false, length);
            EDGE.due("28: new shorts", Edge.slot(x, 0), "0 ".repeat(length) + "shorts");
        }
        // What an array had behind the length of the next one does not come back.
        GrammarAmbiguity x = Edge.full();
        x.allocate(0, true, 1);
        x.allocate(0, true, 40);
        EDGE.due("28: long, short, long", Edge.slot(x, 0), "0 ".repeat(40) + "ints");
        GrammarAmbiguity y = Edge.full();
        y.allocate(0, true, 0);
        EDGE.due("28: the others stay", Edge.slot(y, 1), Edge.slot(Edge.full(), 1));
    }

    private static void allocateEmptyArray() {
        for (boolean wide : new boolean[] {true, false}) {
            for (int i = 0; i < 3; i++) {
                int slot = i;
                Edge.Make make = () -> {
                    GrammarAmbiguity x = Edge.full();
                    x.allocate(slot, wide, 0);
                    return x;
                };
                EDGE.refused("28: no index", make, Edge.INDEX, x -> x.setElement(slot, 0, 1));
                EDGE.refused("28: no index -1", make, Edge.INDEX,
                        x -> x.setElement(slot, -1, 1));
                EDGE.refused("30: no index", make, Edge.INDEX, x -> x.storeCounts(slot, 0));
                EDGE.refused("31: no index", make, Edge.INDEX, x -> x.loadWord(slot, 0, 1));
                EDGE.taken("31: no element", make, x -> x.loadWord(slot, 0, 0));
            }
        }
    }

    private static void allocateFullArray() {
        for (boolean wide : new boolean[] {true, false}) {
            GrammarAmbiguity x = new GrammarAmbiguity();
            x.allocate(2, wide, 40);
            for (int i = 0; i < 40; i++) {
                EDGE.due("28: element " + i, x.setElement(2, i, 100 + i), 0);
            }
            for (int i = 39; i >= 0; i--) {
                EDGE.due("29: element " + i, x.setElement(2, i, 0), 100 + i);
            }
        }
    }

    // Promise 29.

    /** "IllegalArgumentException if the slot is out of range". */
    private static void elementSlot() {
        Edge.Make make = () -> {
            GrammarAmbiguity x = Edge.full();
            x.allocate(2, false, 1);
            return x;
        };
        EDGE.range("29: slot", make, 0, 2, Edge.ARGUMENT, (x, n) -> x.setElement(n, 0, 5));
        for (int slot : Edge.outside(0, 2)) {
            EDGE.refused("29: slot, all empty", GrammarAmbiguity::new, Edge.ARGUMENT,
                    x -> x.setElement(slot, 0, 5));
        }
    }

    /** "IllegalStateException if the slot is empty". */
    private static void elementOfEmptySlot() {
        for (int index : new int[] {0, 1, -1, 39, 40, LEAST, MOST}) {
            EDGE.refused("29: empty", Edge::some, Edge.STATE, x -> x.setElement(2, index, 1));
        }
    }

    /** "IndexOutOfBoundsException if there is no such index". */
    private static void elementIndex() {
        for (boolean wide : new boolean[] {true, false}) {
            for (int length : new int[] {1, 2, 39, 40}) {
                EDGE.range("29: index", array(wide, length), 0, length - 1, Edge.INDEX,
                        (x, n) -> x.setElement(1, n, 7));
            }
            for (int index : wrongIndexes(0)) {
                EDGE.refused("29: index of none", array(wide, 0), Edge.INDEX,
                        x -> x.setElement(1, index, 7));
            }
        }
    }

    /** "Returns the previous value of the element." */
    private static void elementReturnsPrevious() {
        GrammarAmbiguity x = array(true, 3).make();
        EDGE.due("29: previous", x.setElement(1, 2, 5), 1);
        EDGE.due("29: the one before", x.setElement(1, 2, -5), 5);
        EDGE.due("29: and before", x.setElement(1, 2, -5), -5);
        EDGE.due("29: the others stay", Edge.slot(x, 1), "1 1 -5 ints");
        EDGE.due("29: the tree stays", x.treeNumber(), 1L);
    }

    private static final int[] VALUES = {
        0, 1, -1, 32767, 32768, 32769, -32768, -32769, 65535, 65536, 65537, -65535, -65536,
        98303, 98304, 0x12345678, 0x7fff8000, MOST, MOST - 1, LEAST, LEAST + 1, LEAST + 32768
    };

    /** "The value is narrowed to the element type as by a Java cast", told in its 16 bits. */
    private static void elementNarrowsShorts() {
        int[] due = {0, 1, -1, 32767, -32768, -32767, -32768, 32767, -1, 0, 1, 1, 0,
            32767, -32768, 0x5678, -32768, -1, -2, 0, 1, -32768};
        GrammarAmbiguity x = array(false, 40).make();
        for (int i = 0; i < VALUES.length; i++) {
            x.setElement(1, 39, VALUES[i]);
            EDGE.due("29: short of " + VALUES[i], x.setElement(1, 39, 0), due[i]);
        }
    }

    private static void elementKeepsInts() {
        GrammarAmbiguity x = array(true, 40).make();
        for (int value : VALUES) {
            x.setElement(1, 39, value);
            EDGE.due("29: int of " + value, x.setElement(1, 39, 0), value);
        }
    }

    // Promise 30.

    /** "IllegalArgumentException if the slot is out of range". */
    private static void countsSlot() {
        Edge.Make make = () -> {
            GrammarAmbiguity x = Edge.full();
            x.allocate(2, false, 6);
            return x;
        };
        EDGE.range("30: slot", make, 0, 2, Edge.ARGUMENT, (x, n) -> x.storeCounts(n, 0));
        for (int slot : Edge.outside(0, 2)) {
            EDGE.refused("30: slot, all empty", GrammarAmbiguity::new, Edge.ARGUMENT,
                    x -> x.storeCounts(slot, 0));
        }
    }

    /** "IllegalStateException if the slot is empty". */
    private static void countsIntoEmptySlot() {
        for (int index : new int[] {0, 1, -1, 34, 35, 40, LEAST, MOST}) {
            EDGE.refused("30: empty", Edge::some, Edge.STATE, x -> x.storeCounts(2, index));
        }
    }

    /** "IndexOutOfBoundsException if the array does not have all six indexes". */
    private static void countsIndex() {
        for (boolean wide : new boolean[] {true, false}) {
            for (int length : new int[] {6, 7, 8, 39, 40}) {
                for (int i = 0; i <= length - 6; i++) {
                    int index = i;
                    EDGE.taken("30: " + index + " of " + length, array(wide, length),
                            x -> x.storeCounts(1, index));
                }
                for (int index : wrongIndexes(length - 5)) {
                    EDGE.refused("30: " + index + " of " + length, array(wide, length),
                            Edge.INDEX, x -> x.storeCounts(1, index));
                }
                EDGE.refused("30: the last element", array(wide, length), Edge.INDEX,
                        x -> x.storeCounts(1, length - 1));
                EDGE.refused("30: the end", array(wide, length), Edge.INDEX,
                        x -> x.storeCounts(1, length));
            }
        }
    }

    private static void countsIntoShortArrays() {
        for (int length = 0; length < 6; length++) {
            for (int index : new int[] {0, 1, -1, -5, -6, length, LEAST, MOST, MOST - 5}) {
                EDGE.refused("30: into " + length, array(true, length), Edge.INDEX,
                        x -> x.storeCounts(1, index));
            }
        }
    }

    /** "the numbers of words of the language with the lengths 1 to 6 .. from a given index on". */
    private static void countsValues() {
        String zeros = "0 ".repeat(34);
        for (boolean wide : new boolean[] {true, false}) {
            String kind = wide ? "ints" : "shorts";
            GrammarAmbiguity x = Edge.full();
            x.allocate(0, wide, 40);
            x.storeCounts(0, 0);
            EDGE.due("30: first", Edge.slot(x, 0), "3 9 27 81 243 729 " + zeros + kind);
            x.allocate(0, wide, 40);
            x.storeCounts(0, 34);
            EDGE.due("30: last", Edge.slot(x, 0), zeros + "3 9 27 81 243 729 " + kind);
            GrammarAmbiguity y = array(wide, 8).make();
            y.storeCounts(1, 1);
            EDGE.due("30: between", Edge.slot(y, 1), "1 2 4 8 16 32 64 1 " + kind);
            EDGE.due("30: the tree stays", y.treeNumber(), 1L);
            EDGE.due("30: the word stays", Look.word(y), "aba");
        }
        GrammarAmbiguity z = Edge.full();
        z.storeCounts(0, 0);
        EDGE.due("30: the others stay", Edge.slot(z, 1), Edge.slot(Edge.full(), 1));
    }

    private static void countsOfNoWords() {
        GrammarAmbiguity x = array(true, 6).make();
        x.reset(1, 3);
        x.storeCounts(1, 0);
        EDGE.due("30: no grammar", Edge.slot(x, 1), "0 0 0 0 0 0 ints");
        x.addProduction(0, 10, 0, 12);
        x.addProduction(0, 11, 11, -1);
        x.storeCounts(1, 0);
        EDGE.due("30: at even lengths", Edge.slot(x, 1), "0 1 0 1 0 1 ints");
    }

    // Promise 31.

    /** "if the slot .. is out of range". */
    private static void loadSlot() {
        Edge.Make make = () -> {
            GrammarAmbiguity x = Edge.full();
            x.allocate(2, false, 8);
            return x;
        };
        EDGE.range("31: slot", make, 0, 2, Edge.ARGUMENT, (x, n) -> x.loadWord(n, 0, 8));
        for (int slot : Edge.outside(0, 2)) {
            EDGE.refused("31: slot, all empty", GrammarAmbiguity::new, Edge.ARGUMENT,
                    x -> x.loadWord(slot, 0, 0));
        }
    }

    /** "the number of elements, 0 to 8". */
    private static void loadCount() {
        for (int i = 0; i < 2; i++) {
            int slot = i;
            EDGE.range("31: count", Edge::full, 0, 8, Edge.ARGUMENT,
                    (x, n) -> x.loadWord(slot, 0, n));
            EDGE.range("31: count at the end", Edge::full, 0, 8, Edge.ARGUMENT,
                    (x, n) -> x.loadWord(slot, 32, n));
        }
    }

    /** "IllegalStateException if the slot is empty", also if nothing is to be loaded. */
    private static void loadFromEmptySlot() {
        for (int i = 0; i <= 8; i++) {
            int count = i;
            for (int index : new int[] {0, -1, 39, 40, LEAST, MOST}) {
                EDGE.refused("31: empty", Edge::some, Edge.STATE,
                        x -> x.loadWord(2, index, count));
            }
        }
    }

    /** "IndexOutOfBoundsException if one of the indexes does not exist". */
    private static void loadIndexes() {
        for (boolean wide : new boolean[] {true, false}) {
            for (int length : new int[] {1, 7, 8, 9, 40}) {
                for (int i = 1; i <= 8 && i <= length; i++) {
                    int count = i;
                    EDGE.taken("31: first", array(wide, length), x -> x.loadWord(1, 0, count));
                    EDGE.taken("31: last", array(wide, length),
                            x -> x.loadWord(1, length - count, count));
                    EDGE.refused("31: over the end", array(wide, length), Edge.INDEX,
                            x -> x.loadWord(1, length - count + 1, count));
                    EDGE.refused("31: before the begin", array(wide, length), Edge.INDEX,
                            x -> x.loadWord(1, -1, count));
                    EDGE.refused("31: at the end", array(wide, length), Edge.INDEX,
                            x -> x.loadWord(1, length, count));
                }
            }
            EDGE.refused("31: eight of seven", array(wide, 7), Edge.INDEX,
                    x -> x.loadWord(1, 0, 8));
            EDGE.refused("31: one of none", array(wide, 0), Edge.INDEX,
                    x -> x.loadWord(1, 0, 1));
            EDGE.refused("31: all before the begin", array(wide, 8), Edge.INDEX,
                    x -> x.loadWord(1, -8, 8));
        }
    }

    /** An index near the greatest int, to which a count cannot be added. */
    private static void loadIndexesThatWrap() {
        for (int i = 1; i <= 8; i++) {
            int count = i;
            for (int index : wrongIndexes(40)) {
                EDGE.refused("31: " + index + ", " + count, Edge::full, Edge.INDEX,
                        x -> x.loadWord(0, index, count));
            }
        }
    }

    /** "With a count of 0 this cannot happen": the word becomes empty, and the tree is gone. */
    private static void loadNothing() {
        for (int length : new int[] {0, 1, 40}) {
            for (int index : new int[] {0, 1, -1, 39, 40, 41, LEAST, LEAST + 1, MOST - 1, MOST}) {
                GrammarAmbiguity x = array(true, length).make();
                EDGE.due("31: nothing", Edge.answer(y -> y.loadWord(1, index, 0), x), "taken");
                EDGE.due("31: the empty word", x.wordLength(), 0);
                EDGE.due("31: without trees", x.treeCount(), 0L);
                EDGE.noTree("31: nothing", x);
            }
        }
        // Elements that are no terminals do not matter, for none is loaded.
        GrammarAmbiguity x = array(true, 1).make();
        x.setElement(1, 0, 99);
        EDGE.due("31: nothing of 99", Edge.answer(y -> y.loadWord(1, 0, 0), x), "taken");
    }

    /** "NoSuchElementException if one of the elements is not the number of a terminal". */
    private static void loadElements() {
        for (int i = 1; i <= 3; i++) {
            int terminals = i;
            for (int value : new int[] {-1, terminals, 10, 11, LEAST, MOST, 256, 65536, -65536}) {
                for (int at : new int[] {0, 3, 7}) {
                    EDGE.refused("31: " + value + " at " + at, with(terminals, at, value),
                            Edge.ELEMENT, x -> x.loadWord(1, 0, 8));
                }
                EDGE.refused("31: alone " + value, with(terminals, 7, value), Edge.ELEMENT,
                        x -> x.loadWord(1, 7, 1));
                EDGE.taken("31: before " + value, with(terminals, 7, value),
                        x -> x.loadWord(1, 0, 7));
                EDGE.taken("31: behind " + value, with(terminals, 0, value),
                        x -> x.loadWord(1, 1, 7));
            }
            for (int value = 0; value < terminals; value++) {
                GrammarAmbiguity x = with(terminals, 7, value).make();
                x.loadWord(1, 0, 8);
                EDGE.due("31: terminal " + value, x.terminalAt(7), value);
            }
        }
    }

    /** An array of 8 ints, all 0 but one. */
    private static Edge.Make with(int terminals, int at, int value) {
        return () -> {
            GrammarAmbiguity x = Look.bench(1, terminals, 0, 10, -1, -1, 0, 0, 0, -1);
            Look.write(x, "aaa");
            x.takeTree(1);
            x.allocate(1, true, 8);
            x.setElement(1, at, value);
            return x;
        };
    }

    /** What a short has been narrowed to is what counts. */
    private static void loadNarrowedElements() {
        GrammarAmbiguity x = Look.pairs();
        x.allocate(0, false, 3);
        x.setElement(0, 0, 65536);
        x.setElement(0, 1, 65537);
        x.setElement(0, 2, LEAST + 1);
        x.loadWord(0, 0, 3);
        EDGE.due("31: narrowed", Look.word(x), "abb");
        Edge.Make make = () -> {
            GrammarAmbiguity y = Edge.some();
            y.setElement(1, 0, 65538);
            y.setElement(1, 1, 65535);
            return y;
        };
        EDGE.refused("31: narrowed to 2", make, Edge.ELEMENT, y -> y.loadWord(1, 0, 1));
        EDGE.refused("31: narrowed to -1", make, Edge.ELEMENT, y -> y.loadWord(1, 1, 1));
    }

    private static void loadFullWord() {
        GrammarAmbiguity x = Edge.full();
        x.loadWord(0, 32, 8);
        EDGE.due("31: the last eight ints", Look.word(x), "acbacbac");
        EDGE.noTree("31", x);
        EDGE.due("31: full", Check.answer(() -> x.append(0)), Edge.NONE);
        x.loadWord(1, 0, 8);
        EDGE.due("31: the first eight shorts", Look.word(x), "abcabcab");
        x.loadWord(1, 39, 1);
        EDGE.due("31: the last", Look.word(x), "a");
        x.loadWord(1, 38, 2);
        EDGE.due("31: the last two", Look.word(x), "ca");
        EDGE.due("31: slots stay", Edge.slot(x, 1), Edge.slot(Edge.full(), 1));
    }
}
