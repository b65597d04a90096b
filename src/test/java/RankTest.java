import java.math.BigInteger;
import java.util.ArrayList;
import java.util.Arrays;
import java.util.HashMap;
import java.util.List;
import java.util.Map;
import java.util.NoSuchElementException;
import java.util.Random;

/**
 * Promises 14, 15 and 23 to 27 for grammars with far more trees than Model can write out. A tree is
 * read node by node, found to be a tree of the grammar, and numbered by sums of whole numbers that
 * have no greatest one.
 */
public final class RankTest {
    private static final int GRAMMARS = 150;
    private static final Check CHECK = new Check("RankTest");
    /** Stands in a text for any terminal. */
    private static final char ANY = '?';

    private final Random random;
    private final int nonterminals;
    private final int terminals;
    private final List<int[]> productions = new ArrayList<>();
    private final Map<String, BigInteger> counted = new HashMap<>();
    private BigInteger greatest = BigInteger.ZERO;

    private RankTest(int seed) {
        random = new Random(seed);
        nonterminals = 1 + random.nextInt(6);
        terminals = 1 + random.nextInt(3);
    }

    public static void main(String[] args) {
        BigInteger greatest = BigInteger.ZERO;
        for (int seed = 1; seed <= GRAMMARS; seed++) {
            RankTest test = new RankTest(seed);
            test.writeGrammar();
            test.counts("grammar " + seed);
            for (int length = 1; length <= 8; length++) {
                test.drawnTree("grammar " + seed + ", length " + length, length);
            }
            greatest = greatest.max(test.greatest);
        }
        CHECK.due("some trees have a number above all ints", greatest.bitLength() > 32, true);
        CHECK.end();
    }

    /** 24 productions, or as many as chance finds; each nonterminal has a terminal alone. */
    private void writeGrammar() {
        for (int left = 0; left < nonterminals; left++) {
            add(left, 10 + random.nextInt(terminals), -1, -1);
        }
        for (int tries = 0; tries < 200 && productions.size() < 24; tries++) {
            int left = random.nextInt(nonterminals);
            switch (random.nextInt(5)) {
                case 0:
                    add(left, 10 + random.nextInt(terminals), -1, -1);
                    break;
                case 1:
                    add(left, symbol(), symbol(), symbol());
                    break;
                default:
                    add(left, symbol(), symbol(), -1);
                    break;
            }
        }
    }

    private int symbol() {
        return random.nextInt(5) == 0
                ? 10 + random.nextInt(terminals) : random.nextInt(nonterminals);
    }

    private void add(int... production) {
        for (int[] other : productions) {
            if (Arrays.equals(other, production)) {
                return;
            }
        }
        productions.add(production);
    }

    private GrammarAmbiguity bench() {
        GrammarAmbiguity x = new GrammarAmbiguity();
        x.reset(nonterminals, terminals);
        for (int[] p : productions) {
            x.addProduction(p[0], p[1], p[2], p[3]);
        }
        return x;
    }

    // Counting. A part is a symbol with its text; a cut is the list of the lengths of the parts.

    private BigInteger count(int symbol, String text) {
        if (symbol >= 10) {
            boolean fits = text.length() == 1
                    && (text.charAt(0) == ANY || text.charAt(0) == 'a' + symbol - 10);
            return fits ? BigInteger.ONE : BigInteger.ZERO;
        }
        String key = symbol + text;
        BigInteger known = counted.get(key);
        if (known != null) {
            return known;
        }
        BigInteger sum = BigInteger.ZERO;
        for (int p = 0; p < productions.size(); p++) {
            if (productions.get(p)[0] == symbol) {
                for (int[] cut : cuts(p, text.length())) {
                    sum = sum.add(countCut(p, cut, text));
                }
            }
        }
        counted.put(key, sum);
        return sum;
    }

    /** In the order of trees: the first part that is shorter comes first. */
    private List<int[]> cuts(int production, int length) {
        int parts = parts(production);
        List<int[]> all = new ArrayList<>();
        for (int first = 1; first <= length; first++) {
            int rest = length - first;
            if (parts == 1 && rest == 0) {
                all.add(new int[] {first});
            } else if (parts == 2 && rest > 0) {
                all.add(new int[] {first, rest});
            } else if (parts == 3) {
                for (int second = 1; second < rest; second++) {
                    all.add(new int[] {first, second, rest - second});
                }
            }
        }
        return all;
    }

    private int parts(int production) {
        int[] p = productions.get(production);
        return p[2] == -1 ? 1 : p[3] == -1 ? 2 : 3;
    }

    private BigInteger countCut(int production, int[] cut, String text) {
        BigInteger product = BigInteger.ONE;
        int at = 0;
        for (int i = 0; i < cut.length && product.signum() != 0; i++) {
            int end = at + cut[i];
            product = product.multiply(
                    count(productions.get(production)[1 + i], text.substring(at, end)));
            at = end;
        }
        return product;
    }

    // Reading the current tree.

    /** A node with its parts, of which those that are terminals are null. */
    private static final class Node {
        int production;
        int begin;
        int length;
        final List<Node> parts = new ArrayList<>();
    }

    private static final class Reading {
        final GrammarAmbiguity x;
        final String word;
        int next = 0;
        boolean good = true;

        Reading(GrammarAmbiguity x) {
            this.x = x;
            word = Look.word(x);
        }
    }

    /** Reads a node and what is below it; it has to be a tree of the symbol that begins here. */
    private Node read(Reading reading, int symbol, int begin) {
        Node node = new Node();
        if (reading.next >= reading.x.treeSize()) {
            reading.good = false;
            return node;
        }
        node.production = reading.x.treeNode(reading.next, 0);
        node.begin = reading.x.treeNode(reading.next, 1);
        node.length = reading.x.treeNode(reading.next, 2);
        reading.next++;
        int[] production = productions.get(node.production);
        reading.good &= production[0] == symbol && node.begin == begin;
        int at = begin;
        for (int i = 1; i <= parts(node.production) && reading.good; i++) {
            if (production[i] >= 10) {
                reading.good &= at < reading.word.length()
                        && reading.word.charAt(at) == 'a' + production[i] - 10;
                node.parts.add(null);
                at++;
            } else {
                Node part = read(reading, production[i], at);
                node.parts.add(part);
                at += part.length;
            }
        }
        reading.good &= at == begin + node.length;
        return node;
    }

    /** How many trees of the text come before this one. */
    private BigInteger before(Node node, String text) {
        int symbol = productions.get(node.production)[0];
        int[] lengths = new int[node.parts.size()];
        for (int i = 0; i < lengths.length; i++) {
            lengths[i] = node.parts.get(i) == null ? 1 : node.parts.get(i).length;
        }
        BigInteger sum = BigInteger.ZERO;
        for (int p = 0; p <= node.production; p++) {
            if (productions.get(p)[0] == symbol) {
                for (int[] cut : cuts(p, text.length())) {
                    if (p < node.production || Arrays.compare(cut, lengths) < 0) {
                        sum = sum.add(countCut(p, cut, text));
                    }
                }
            }
        }
        // A tree before it in a part goes with every tree of the parts behind that one.
        BigInteger behind = BigInteger.ONE;
        int end = text.length();
        for (int i = lengths.length - 1; i >= 0; i--) {
            String piece = text.substring(end - lengths[i], end);
            if (node.parts.get(i) != null) {
                sum = sum.add(before(node.parts.get(i), piece).multiply(behind));
            }
            behind = behind.multiply(count(productions.get(node.production)[1 + i], piece));
            end -= lengths[i];
        }
        return sum;
    }

    // What is due.

    private static String any(int length) {
        return String.valueOf(ANY).repeat(length);
    }

    private void counts(String what) {
        GrammarAmbiguity x = bench();
        for (int length = 10; length >= 1; length--) {
            CHECK.due("15: " + what + ", length " + length, x.treesOfLength(length),
                    count(0, any(length)).longValueExact());
        }
    }

    /** The number of the current tree among those of its word and those of its length. */
    private BigInteger[] see(String what, GrammarAmbiguity x) {
        Reading reading = new Reading(x);
        Node root = read(reading, 0, 0);
        boolean whole = reading.good && reading.next == x.treeSize()
                && root.length == x.wordLength();
        CHECK.due("27: " + what + " is a tree of its word", whole, true);
        if (!whole) {
            return new BigInteger[] {null, null};
        }
        return new BigInteger[] {before(root, reading.word), before(root, any(root.length))};
    }

    private void drawnTree(String what, int length) {
        GrammarAmbiguity x = bench();
        BigInteger all = count(0, any(length));
        long seed = random.nextLong();
        if (all.signum() == 0) {
            CHECK.refused("23: " + what, x, NoSuchElementException.class,
                    () -> x.drawTree(seed, length));
            return;
        }
        long drawn = x.drawTree(seed, length);
        BigInteger[] numbers = see(what, x);
        String tree = Look.tree(x);
        BigInteger half = new BigInteger(
                Long.toUnsignedString(seed * Edge.FACTOR + Edge.SUMMAND)).shiftRight(1);
        CHECK.due("23: " + what, BigInteger.valueOf(drawn), half.mod(all));
        CHECK.due("23: trees before it, " + what, numbers[1], BigInteger.valueOf(drawn));
        CHECK.due("25: " + what, BigInteger.valueOf(x.treeNumber()), numbers[0]);
        greatest = greatest.max(BigInteger.valueOf(drawn));

        BigInteger ofWord = count(0, Look.word(x));
        CHECK.due("14: " + what, BigInteger.valueOf(x.treeCount()), ofWord);
        x.takeTree(x.treeNumber());
        CHECK.due("24: " + what + " again", Look.tree(x), tree);
        takenTree(what, x, ofWord);
    }

    private void takenTree(String what, GrammarAmbiguity x, BigInteger ofWord) {
        BigInteger number = new BigInteger(62, random).mod(ofWord);
        int size = x.takeTree(number.longValueExact());
        CHECK.due("26: " + what, x.treeSize(), size);
        CHECK.due("24: " + what + " by number", see(what, x)[0], number);
        CHECK.due("25: " + what + " by number", BigInteger.valueOf(x.treeNumber()), number);
        x.takeTree(ofWord.longValueExact() - 1);
        CHECK.due("24: " + what + " the last", see(what, x)[0], ofWord.subtract(BigInteger.ONE));
        CHECK.refused("24: " + what + " behind the last", x, NoSuchElementException.class,
                () -> x.takeTree(ofWord.longValueExact()));
    }
}
