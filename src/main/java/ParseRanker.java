/** Ranks the ways in which a row of words can be derived by a small grammar with costs. */
public final class ParseRanker {
    public static final int NONE = -1;
    public static final int FULL = -2;

    private static final int SYMBOLS = 3;
    private static final int WORDS = 3;
    private static final int RULES = 8;
    private static final int GREATEST_COST = 50;
    private static final int LONGEST_ROW = 5;
    private static final int RANKS = 8;

    // A tree over n words has n WORD rules and n - 1 PAIR rules, and each PAIR rule also lists its place.
    private static final int MOST_NODES = 2 * LONGEST_ROW - 1;
    private static final int LONGEST_LIST = 3 * LONGEST_ROW - 2;

    // A cell is a start 0 .. 4, an end 0 .. 5 and a symbol.
    private static final int ENDS = LONGEST_ROW + 1;
    private static final int CELLS = LONGEST_ROW * ENDS * SYMBOLS;
    private static final int RANKED_COSTS = CELLS * RANKS;

    private static final int ABSENT = 0;
    private static final int PAIR = 1;
    private static final int WORD = 2;

    private final int[] ruleForm = new int[RULES];
    private final int[] ruleSymbol = new int[RULES];
    private final int[] ruleFirst = new int[RULES];
    private final int[] ruleSecond = new int[RULES];
    private final int[] ruleCost = new int[RULES];

    private final int[] row = new int[LONGEST_ROW];
    private int rowLength;

    // The chart is made anew for each question, so that no change of a rule or a word can leave it stale.
    private final int[] treeCount = new int[CELLS];
    private final int[] rankedCost = new int[RANKED_COSTS];
    private final int[] bestRule = new int[CELLS];
    private final int[] bestSplit = new int[CELLS];
    private final int[] leastWith = new int[CELLS];

    private final int[] bestList = new int[LONGEST_LIST];
    // Cells that wait are spans beside each other, so there are never more of them than words.
    private final int[] waitingCell = new int[LONGEST_ROW];

    public ParseRanker() {
        rowLength = 0;
    }

    public int pair(int abc, int cost) {
        int a = abc & 3;
        int b = (abc >> 2) & 3;
        // All higher bits and the sign stay in c, so that c alone shows an abc below 0 or above 63.
        int c = abc >> 4;
        if (!isSymbol(a) || !isSymbol(b) || !isSymbol(c) || !isCost(cost)) {
            return NONE;
        }
        return addRule(PAIR, a, b, c, cost);
    }

    public int word(int a, int w, int cost) {
        if (!isSymbol(a) || !isWord(w) || !isCost(cost)) {
            return NONE;
        }
        return addRule(WORD, a, w, 0, cost);
    }

    public boolean drop(int k) {
        if (!isRule(k)) {
            return false;
        }
        ruleForm[k] = ABSENT;
        return true;
    }

    public boolean price(int k, int cost) {
        if (!isRule(k) || !isCost(cost)) {
            return false;
        }
        ruleCost[k] = cost;
        return true;
    }

    public int rules() {
        int bits = 0;
        for (int k = 0; k < RULES; k++) {
            if (ruleForm[k] != ABSENT) {
                bits |= 1 << k;
            }
        }
        return bits;
    }

    public boolean say(int w) {
        if (!isWord(w) || rowLength >= LONGEST_ROW) {
            return false;
        }
        row[rowLength] = w;
        rowLength++;
        return true;
    }

    public int unsay() {
        if (rowLength <= 0) {
            return NONE;
        }
        rowLength--;
        return row[rowLength];
    }

    public int length() {
        return rowLength;
    }

    public int cost(int a, int k) {
        return spanCost(0, rowLength, a, k);
    }

    public int spanCost(int i, int j, int a, int k) {
        if (!isSpan(i, j) || !isSymbol(a) || k < 0 || k >= RANKS) {
            return NONE;
        }
        fillChart();
        int cell = cellOf(i, j, a);
        return k < treeCount[cell] ? rankedCost[cell * RANKS + k] : NONE;
    }

    public int trees(int a) {
        if (!isSymbol(a) || rowLength == 0) {
            return 0;
        }
        fillChart();
        int cell = cellOf(0, rowLength, a);
        return treeCount[cell];
    }

    public int bestAt(int a, int k) {
        if (!isSymbol(a) || rowLength == 0 || k < 0 || k >= LONGEST_LIST) {
            return NONE;
        }
        fillChart();
        int whole = cellOf(0, rowLength, a);
        if (treeCount[whole] == 0) {
            return NONE;
        }
        int listLength = writeBestList(whole);
        return k < listLength ? bestList[k] : NONE;
    }

    public int symbols(int i, int j) {
        if (!isSpan(i, j)) {
            return 0;
        }
        fillChart();
        int bits = 0;
        for (int a = 0; a < SYMBOLS; a++) {
            int cell = cellOf(i, j, a);
            if (treeCount[cell] > 0) {
                bits |= 1 << a;
            }
        }
        return bits;
    }

    public int costWith(int a, int k) {
        if (!isSymbol(a) || !isRule(k) || rowLength == 0) {
            return NONE;
        }
        fillChart();
        fillLeastWith(k);
        int cell = cellOf(0, rowLength, a);
        return leastWith[cell];
    }

    private static boolean isSymbol(int a) {
        return a >= 0 && a < SYMBOLS;
    }

    private static boolean isWord(int w) {
        return w >= 0 && w < WORDS;
    }

    private static boolean isCost(int cost) {
        return cost >= 0 && cost <= GREATEST_COST;
    }

    private boolean isRule(int k) {
        return k >= 0 && k < RULES && ruleForm[k] != ABSENT;
    }

    private boolean isSpan(int i, int j) {
        return 0 <= i && i < j && j <= rowLength;
    }

    private static int cellOf(int start, int end, int symbol) {
        return (start * ENDS + end) * SYMBOLS + symbol;
    }

    private int addRule(int form, int symbol, int first, int second, int cost) {
        for (int k = 0; k < RULES; k++) {
            if (ruleForm[k] == ABSENT) {
                ruleForm[k] = form;
                ruleSymbol[k] = symbol;
                ruleFirst[k] = first;
                ruleSecond[k] = second;
                ruleCost[k] = cost;
                return k;
            }
        }
        return FULL;
    }

    private void fillChart() {
        for (int cell = 0; cell < CELLS; cell++) {
            treeCount[cell] = 0;
        }
        // In this order of spans, both parts of a span are ready before the span itself.
        for (int end = 1; end <= rowLength; end++) {
            for (int start = end - 1; start >= 0; start--) {
                for (int rule = 0; rule < RULES; rule++) {
                    addTreesOfRule(rule, start, end);
                }
            }
        }
    }

    private void addTreesOfRule(int rule, int start, int end) {
        int cell = cellOf(start, end, ruleSymbol[rule]);
        if (wordRuleFits(rule, start, end)) {
            addTree(cell, ruleCost[rule], rule, start);
        }
        if (ruleForm[rule] == PAIR) {
            for (int split = start + 1; split < end; split++) {
                int left = cellOf(start, split, ruleFirst[rule]);
                int right = cellOf(split, end, ruleSecond[rule]);
                addTreesOfSplit(cell, rule, split, left, right);
            }
        }
    }

    private boolean wordRuleFits(int rule, int start, int end) {
        return ruleForm[rule] == WORD && end == start + 1 && ruleFirst[rule] == row[start];
    }

    // The eight least sums need none but the eight least costs of either part.
    private void addTreesOfSplit(int cell, int rule, int split, int left, int right) {
        int leftCount = treeCount[left];
        int rightCount = treeCount[right];
        for (int x = 0; x < leftCount; x++) {
            int soFar = ruleCost[rule] + rankedCost[left * RANKS + x];
            for (int y = 0; y < rightCount; y++) {
                addTree(cell, soFar + rankedCost[right * RANKS + y], rule, split);
            }
        }
    }

    private void addTree(int cell, int cost, int rule, int split) {
        int first = cell * RANKS;
        int count = treeCount[cell];
        // Trees come in the order of rule and place, so of equal costs the first has the lesser list;
        // the parts of a best tree are best themselves, so their lists need no comparing here.
        if (count == 0 || cost < rankedCost[first]) {
            bestRule[cell] = rule;
            bestSplit[cell] = split;
        }
        if (count < RANKS) {
            treeCount[cell] = count + 1;
        } else if (cost >= rankedCost[first + RANKS - 1]) {
            return;
        }
        int place = count < RANKS ? count : RANKS - 1;
        for (; place > 0 && rankedCost[first + place - 1] > cost; place--) {
            rankedCost[first + place] = rankedCost[first + place - 1];
        }
        rankedCost[first + place] = cost;
    }

    private int writeBestList(int whole) {
        int written = 0;
        int waiting = 1;
        waitingCell[0] = whole;
        for (int node = 0; node < MOST_NODES && waiting > 0; node++) {
            waiting--;
            int cell = waitingCell[waiting];
            int rule = bestRule[cell];
            bestList[written] = rule;
            written++;
            if (ruleForm[rule] == PAIR) {
                int split = bestSplit[cell];
                bestList[written] = split;
                written++;
                int span = cell / SYMBOLS;
                // The left part is put on top, because its list comes first.
                waitingCell[waiting] = cellOf(split, span % ENDS, ruleSecond[rule]);
                waitingCell[waiting + 1] = cellOf(span / ENDS, split, ruleFirst[rule]);
                waiting += 2;
            }
        }
        return written;
    }

    private void fillLeastWith(int wanted) {
        for (int cell = 0; cell < CELLS; cell++) {
            leastWith[cell] = NONE;
        }
        for (int end = 1; end <= rowLength; end++) {
            for (int start = end - 1; start >= 0; start--) {
                for (int rule = 0; rule < RULES; rule++) {
                    offerTreesWith(wanted, rule, start, end);
                }
            }
        }
    }

    private void offerTreesWith(int wanted, int rule, int start, int end) {
        int cell = cellOf(start, end, ruleSymbol[rule]);
        if (rule == wanted && wordRuleFits(rule, start, end)) {
            offerWith(cell, ruleCost[rule]);
        }
        if (ruleForm[rule] == PAIR) {
            for (int split = start + 1; split < end; split++) {
                int left = cellOf(start, split, ruleFirst[rule]);
                int right = cellOf(split, end, ruleSecond[rule]);
                if (treeCount[left] > 0 && treeCount[right] > 0) {
                    offerSplitWith(wanted, cell, rule, left, right);
                }
            }
        }
    }

    private void offerSplitWith(int wanted, int cell, int rule, int left, int right) {
        int own = ruleCost[rule];
        int leastLeft = rankedCost[left * RANKS];
        int leastRight = rankedCost[right * RANKS];
        if (rule == wanted) {
            offerWith(cell, own + leastLeft + leastRight);
        }
        if (leastWith[left] != NONE) {
            offerWith(cell, own + leastWith[left] + leastRight);
        }
        if (leastWith[right] != NONE) {
            offerWith(cell, own + leastLeft + leastWith[right]);
        }
    }

    private void offerWith(int cell, int cost) {
        if (leastWith[cell] == NONE || cost < leastWith[cell]) {
            leastWith[cell] = cost;
        }
    }
}
