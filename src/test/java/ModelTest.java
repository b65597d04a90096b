import java.util.Random;

/** Random runs of calls on new workbenches, each answer compared with the model's. */
public final class ModelTest {
    private static final int RUNS = 2000;
    /** The document promises nothing of an object behind these. */
    private static final int CALLS = 512;

    private final Check check = new Check("ModelTest");
    private final Random random = new Random(20261118);
    private GrammarAmbiguity x;
    private Model m;
    private String run;
    private int calls;

    public static void main(String[] args) {
        ModelTest test = new ModelTest();
        for (int i = 1; i <= RUNS; i++) {
            test.run(i);
        }
        test.check.end();
    }

    private void run(int number) {
        x = new GrammarAmbiguity();
        m = new Model();
        run = "run " + number + ": ";
        calls = 0;
        if (random.nextInt(8) != 0) {
            int nonterminals = 1 + random.nextInt(6);
            int terminals = 1 + random.nextInt(3);
            both("reset", () -> {
                x.reset(nonterminals, terminals);
                return "";
            }, () -> {
                m.reset(nonterminals, terminals);
                return "";
            });
        }
        int productions = random.nextInt(5) == 0 ? 26 : random.nextInt(14);
        for (int i = 0; i < productions; i++) {
            add();
        }
        for (int i = 0; i < CALLS && calls < CALLS; i++) {
            step();
        }
    }

    private void both(String what, Check.Call real, Check.Call model) {
        if (calls == CALLS) {
            return;
        }
        calls++;
        check.due(run + what, Check.answer(real), Check.answer(model));
    }

    /** Mostly from low to high, sometimes just outside, now and then far off. */
    private int about(int low, int high) {
        int chance = random.nextInt(60);
        if (chance == 0) {
            return Integer.MAX_VALUE - random.nextInt(3);
        }
        if (chance == 1) {
            return Integer.MIN_VALUE + random.nextInt(3);
        }
        return chance < 12
                ? low - 1 + random.nextInt(high - low + 3)
                : low + random.nextInt(high - low + 1);
    }

    private int code() {
        return random.nextBoolean() ? 10 + random.nextInt(3) : random.nextInt(6);
    }

    private void add() {
        int left = random.nextInt(4) == 0 ? about(0, 5) : random.nextInt(3);
        int first = random.nextInt(20) == 0 ? about(-1, 13) : code();
        int second = random.nextInt(3) == 0 ? -1 : code();
        int third = second == -1 && random.nextInt(20) != 0 || random.nextInt(3) != 0
                ? -1 : code();
        if (random.nextInt(3) == 0) {
            first = 10 + random.nextInt(2);
            second = -1;
            third = -1;
        }
        int a = first;
        int b = second;
        int c = third;
        both("addProduction(" + left + ", " + a + ", " + b + ", " + c + ")",
                () -> x.addProduction(left, a, b, c), () -> m.addProduction(left, a, b, c));
    }

    private void step() {
        switch (random.nextInt(10)) {
            case 0:
                changeGrammar();
                break;
            case 1:
            case 2:
                changeWord();
                break;
            case 3:
                count();
                break;
            case 4:
            case 5:
                rankWords();
                break;
            case 6:
            case 7:
                trees();
                break;
            case 8:
                arrays();
                break;
            default:
                look();
                break;
        }
        both("treeSize()", () -> x.treeSize(), () -> m.treeSize());
        both("wordLength()", () -> x.wordLength(), () -> m.wordLength());
    }

    private void changeGrammar() {
        int a = about(0, 5);
        int production = about(0, Math.max(0, m.productionCount() - 1));
        switch (random.nextInt(8)) {
            case 0:
            case 1:
            case 2:
                add();
                break;
            case 3:
                both("removeProduction(" + production + ")", () -> x.removeProduction(production),
                        () -> m.removeProduction(production));
                break;
            case 4:
                if (random.nextInt(4) == 0) {
                    both("removeUseless()", () -> x.removeUseless(), () -> m.removeUseless());
                }
                break;
            case 5:
                both("setStart(" + a + ")", () -> x.setStart(a), () -> m.setStart(a));
                break;
            case 6:
                both("snapshot()", Check.call(() -> x.snapshot()), Check.call(() -> m.snapshot()));
                break;
            default:
                both("restore()", Check.call(() -> x.restore()), Check.call(() -> m.restore()));
                break;
        }
        if (random.nextInt(60) == 0) {
            int n = about(1, 6);
            int t = about(1, 3);
            both("reset(" + n + ", " + t + ")", Check.call(() -> x.reset(n, t)),
                    Check.call(() -> m.reset(n, t)));
        }
    }

    private void changeWord() {
        int terminal = about(0, 1 + random.nextInt(2));
        if (random.nextInt(9) == 0) {
            both("clearWord()", () -> x.clearWord(), () -> m.clearWord());
        } else {
            both("append(" + terminal + ")", () -> x.append(terminal), () -> m.append(terminal));
        }
    }

    private void count() {
        int length = about(1, 6);
        int longer = about(1, 10);
        int trees = about(0, 3);
        both("treeCount()", () -> x.treeCount(), () -> m.treeCount());
        both("treesOfLength(" + longer + ")", () -> x.treesOfLength(longer),
                () -> m.treesOfLength(longer));
        both("wordsOfLength(" + length + ", " + trees + ")",
                () -> x.wordsOfLength(length, trees), () -> m.wordsOfLength(length, trees));
        both("unambiguousShare(" + length + ")", () -> x.unambiguousShare(length),
                () -> m.unambiguousShare(length));
        both("averageTrees(" + length + ")", () -> x.averageTrees(length),
                () -> m.averageTrees(length));
    }

    private void rankWords() {
        int length = about(1, 6);
        int rank = about(0, random.nextInt(30));
        long seed = random.nextLong() >> random.nextInt(64);
        switch (random.nextInt(5)) {
            case 0:
                both("firstAmbiguous(" + length + ")", () -> x.firstAmbiguous(length),
                        () -> m.firstAmbiguous(length));
                break;
            case 1:
                both("takeWord(" + length + ", " + rank + ")",
                        Check.call(() -> x.takeWord(length, rank)),
                        Check.call(() -> m.takeWord(length, rank)));
                break;
            case 2:
            case 3:
                both("drawWord(" + seed + ", " + length + ")", () -> x.drawWord(seed, length),
                        () -> m.drawWord(seed, length));
                break;
            default:
                both("wordRank()", () -> x.wordRank(), () -> m.wordRank());
                break;
        }
        seeWord();
    }

    private void trees() {
        int length = about(1, 8);
        long seed = random.nextLong() >> random.nextInt(64);
        if (random.nextInt(3) != 0) {
            if (m.canWriteOut(length)) {
                both("drawTree(" + seed + ", " + length + ")", () -> x.drawTree(seed, length),
                        () -> m.drawTree(seed, length));
            }
        } else if (m.canWriteOutWord()) {
            long number = random.nextInt(10) == 0
                    ? seed : about(0, (int) Math.max(0, m.treeCount() - 1));
            both("takeTree(" + number + ")", () -> x.takeTree(number), () -> m.takeTree(number));
        }
        seeWord();
        seeTree();
    }

    private void seeWord() {
        for (int i = -1; i <= m.wordLength(); i++) {
            int position = i;
            both("terminalAt(" + i + ")", () -> x.terminalAt(position),
                    () -> m.terminalAt(position));
        }
    }

    private void seeTree() {
        if (!m.canWriteOutWord()) {
            return;
        }
        both("treeNumber()", () -> x.treeNumber(), () -> m.treeNumber());
        for (int node = -1; node <= 15; node++) {
            for (int what = -1; what <= 3; what++) {
                int a = node;
                int b = what;
                both("treeNode(" + a + ", " + b + ")", () -> x.treeNode(a, b),
                        () -> m.treeNode(a, b));
            }
        }
    }

    private void arrays() {
        int slot = about(0, 2);
        int index = about(0, 40);
        int length = about(0, 40);
        boolean wide = random.nextBoolean();
        int value = random.nextInt(3) == 0 ? random.nextInt() : random.nextInt(3);
        switch (random.nextInt(8)) {
            case 0:
                both("allocate(" + slot + ", " + wide + ", " + length + ")",
                        Check.call(() -> x.allocate(slot, wide, length)),
                        Check.call(() -> m.allocate(slot, wide, length)));
                break;
            case 1:
                both("storeCounts(" + slot + ", " + index + ")",
                        Check.call(() -> x.storeCounts(slot, index)),
                        Check.call(() -> m.storeCounts(slot, index)));
                break;
            case 2:
            case 3:
                int count = about(0, 8);
                both("loadWord(" + slot + ", " + index + ", " + count + ")",
                        Check.call(() -> x.loadWord(slot, index, count)),
                        Check.call(() -> m.loadWord(slot, index, count)));
                seeWord();
                break;
            default:
                both("setElement(" + slot + ", " + index + ", " + value + ")",
                        () -> x.setElement(slot, index, value),
                        () -> m.setElement(slot, index, value));
                break;
        }
    }

    private void look() {
        int production = about(0, Math.max(0, m.productionCount() - 1));
        int position = about(0, 3);
        int nonterminal = about(0, 5);
        both("productionCount()", () -> x.productionCount(), () -> m.productionCount());
        both("productionSymbol(" + production + ", " + position + ")",
                () -> x.productionSymbol(production, position),
                () -> m.productionSymbol(production, position));
        both("shortestLength(" + nonterminal + ")", () -> x.shortestLength(nonterminal),
                () -> m.shortestLength(nonterminal));
    }
}
