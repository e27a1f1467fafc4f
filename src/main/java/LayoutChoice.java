public final class LayoutChoice {
    public static final int TEXT = 0;
    public static final int BESIDE = 1;
    public static final int BELOW = 2;
    public static final int INDENT = 3;
    public static final int EITHER = 4;

    private static final int REFUSED = -1;

    private static final int MOST_DOCUMENTS = 10;
    private static final int MOST_TOKENS = 48;
    private static final int MOST_EITHERS = 6;
    private static final int WIDEST_TEXT = 40;
    private static final int WIDEST_INDENT = 20;
    private static final int HIGHEST_PRICE = 100;
    private static final int WIDEST_ROOM = 200;

    // A document built with e EITHER tokens has at most 2 to the power e boxes:
    // TEXT has 1, BESIDE and BELOW multiply, and EITHER adds at the price of one more e.
    private static final int MOST_BOXES = 64;

    // BESIDE and BELOW still read both documents while they make the new one,
    // so the new one is made in a place above the stack.
    private static final int SPARE = 10;
    private static final int PLACES = 11;
    private static final int CELLS = 704;

    // Place p of the stack (0 is the bottom) has its boxes in the cells from p * MOST_BOXES on.
    private final int[] boxLineEnds = new int[CELLS];
    private final int[] boxWidth = new int[CELLS];
    private final int[] boxLast = new int[CELLS];
    private final int[] boxCount = new int[PLACES];

    private int documents;
    private int tokens;
    private int eithers;

    public LayoutChoice() {
        documents = 0;
        tokens = 0;
        eithers = 0;
    }

    public int token(int code, int n) {
        if (!mayTake(code, n)) {
            return REFUSED;
        }
        switch (code) {
            case TEXT:
                putText(n);
                break;
            case INDENT:
                indentTop(n);
                break;
            case EITHER:
                joinTopTwo();
                break;
            default:
                combineTopTwo(code);
                break;
        }
        tokens++;
        return documents;
    }

    public void clear() {
        documents = 0;
        tokens = 0;
        eithers = 0;
    }

    public int lines(int k, int width) {
        if (!isDocument(k)) {
            return REFUSED;
        }
        int start = firstCell(k);
        int end = endCell(k);
        int least = REFUSED;
        for (int cell = start; cell < end; cell++) {
            if (boxWidth[cell] <= width) {
                least = lesser(least, boxLineEnds[cell]);
            }
        }
        return least;
    }

    public int width(int k, int lines) {
        if (!isDocument(k)) {
            return REFUSED;
        }
        int start = firstCell(k);
        int end = endCell(k);
        int least = REFUSED;
        for (int cell = start; cell < end; cell++) {
            if (boxLineEnds[cell] <= lines) {
                least = lesser(least, boxWidth[cell]);
            }
        }
        return least;
    }

    public int cost(int k, int price, int room) {
        if (!isDocument(k)) {
            return REFUSED;
        }
        int nearPrice = nearest(price, HIGHEST_PRICE);
        int nearRoom = nearest(room, WIDEST_ROOM);
        int start = firstCell(k);
        int end = endCell(k);
        int least = REFUSED;
        for (int cell = start; cell < end; cell++) {
            int over = boxWidth[cell] > nearRoom ? boxWidth[cell] - nearRoom : 0;
            least = lesser(least, nearPrice * boxLineEnds[cell] + over * over);
        }
        return least;
    }

    public int best(int k) {
        if (!isDocument(k)) {
            return REFUSED;
        }
        int start = firstCell(k);
        int end = endCell(k);
        int count = 0;
        for (int cell = start; cell < end; cell++) {
            if (!isBeaten(cell, start, end)) {
                count++;
            }
        }
        return count;
    }

    public int last(int k, int lines, int width) {
        if (!isDocument(k)) {
            return REFUSED;
        }
        int start = firstCell(k);
        int end = endCell(k);
        int least = REFUSED;
        for (int cell = start; cell < end; cell++) {
            if (boxLineEnds[cell] <= lines && boxWidth[cell] <= width) {
                least = lesser(least, boxLast[cell]);
            }
        }
        return least;
    }

    private boolean mayTake(int code, int n) {
        if (tokens >= MOST_TOKENS) {
            return false;
        }
        switch (code) {
            case TEXT:
                return n >= 0 && n <= WIDEST_TEXT && documents < MOST_DOCUMENTS;
            case INDENT:
                return n >= 0 && n <= WIDEST_INDENT && documents >= 1;
            case BESIDE:
            case BELOW:
                return documents >= 2;
            case EITHER:
                return documents >= 2 && eithers < MOST_EITHERS;
            default:
                return false;
        }
    }

    private void putText(int n) {
        boxCount[documents] = 0;
        addBox(documents, 0, n, n);
        documents++;
    }

    private void indentTop(int n) {
        int start = firstCell(0);
        int end = endCell(0);
        for (int cell = start; cell < end; cell++) {
            boxWidth[cell] += n;
            boxLast[cell] += n;
        }
    }

    private void joinTopTwo() {
        int start = firstCell(0);
        int end = endCell(0);
        addCells(documents - 2, start, end);
        documents--;
        eithers++;
    }

    private void combineTopTwo(int code) {
        int firstStart = firstCell(1);
        int firstEnd = endCell(1);
        int secondStart = firstCell(0);
        int secondEnd = endCell(0);
        boxCount[SPARE] = 0;
        for (int first = firstStart; first < firstEnd; first++) {
            for (int second = secondStart; second < secondEnd; second++) {
                if (code == BESIDE) {
                    addBeside(first, second);
                } else {
                    addBelow(first, second);
                }
            }
        }
        documents--;
        moveSpareToTop();
    }

    private void addBeside(int first, int second) {
        int lineEnds = boxLineEnds[first] + boxLineEnds[second];
        int reach = boxLast[first] + boxWidth[second];
        int wide = boxWidth[first] > reach ? boxWidth[first] : reach;
        addBox(SPARE, lineEnds, wide, boxLast[first] + boxLast[second]);
    }

    private void addBelow(int first, int second) {
        int lineEnds = boxLineEnds[first] + boxLineEnds[second] + 1;
        int wide = boxWidth[first] > boxWidth[second] ? boxWidth[first] : boxWidth[second];
        addBox(SPARE, lineEnds, wide, boxLast[second]);
    }

    private void moveSpareToTop() {
        int start = SPARE * MOST_BOXES;
        int end = start + boxCount[SPARE];
        boxCount[documents - 1] = 0;
        addCells(documents - 1, start, end);
    }

    private void addCells(int place, int start, int end) {
        for (int cell = start; cell < end; cell++) {
            addBox(place, boxLineEnds[cell], boxWidth[cell], boxLast[cell]);
        }
    }

    // A document is a set: best counts different boxes and relies on each being held once.
    private void addBox(int place, int lineEnds, int wide, int lastWidth) {
        int start = place * MOST_BOXES;
        int end = start + boxCount[place];
        for (int cell = start; cell < end; cell++) {
            if (boxLineEnds[cell] == lineEnds && boxWidth[cell] == wide && boxLast[cell] == lastWidth) {
                return;
            }
        }
        // Never full, as MOST_BOXES says; looked at so that no cell of the next place is written.
        if (boxCount[place] < MOST_BOXES) {
            boxLineEnds[end] = lineEnds;
            boxWidth[end] = wide;
            boxLast[end] = lastWidth;
            boxCount[place]++;
        }
    }

    private boolean isBeaten(int box, int start, int end) {
        for (int cell = start; cell < end; cell++) {
            if (cell != box && boxLineEnds[cell] <= boxLineEnds[box]
                    && boxWidth[cell] <= boxWidth[box] && boxLast[cell] <= boxLast[box]) {
                return true;
            }
        }
        return false;
    }

    private boolean isDocument(int k) {
        return k >= 0 && k < documents;
    }

    private int firstCell(int k) {
        return (documents - 1 - k) * MOST_BOXES;
    }

    private int endCell(int k) {
        int place = documents - 1 - k;
        return place * MOST_BOXES + boxCount[place];
    }

    // What is measured is never below 0, so REFUSED stands for nothing found yet.
    private static int lesser(int least, int value) {
        return least == REFUSED || value < least ? value : least;
    }

    private static int nearest(int value, int most) {
        if (value < 0) {
            return 0;
        }
        return value > most ? most : value;
    }
}
