/**
 * A test of its own for each sentence of the document that names a boundary: the last value that is taken and the
 * first that is not, on each side, and the ends of int. What a refused call leaves is in LayoutChoiceRefusals.
 */
public final class LayoutChoiceBoundaries {
    private static final int MIN = Integer.MIN_VALUE;
    private static final int MAX = Integer.MAX_VALUE;
    private static final int TEXT = 0;
    private static final int BESIDE = 1;
    private static final int BELOW = 2;
    private static final int INDENT = 3;
    private static final int EITHER = 4;

    private static int wrong = 0;
    private static String sentence = "";

    public static void main(String[] args) {
        test("What it is: at most 512 calls", LayoutChoiceBoundaries::the512thCall);
        test("Terms: the codes of tokens", LayoutChoiceBoundaries::codes);
        test("Terms: line ends, width and last of 0 or more", LayoutChoiceBoundaries::boxOfZeros);
        test("Terms: at most 10 documents", LayoutChoiceBoundaries::tenDocuments);
        test("Terms: a full stack takes what needs no room", LayoutChoiceBoundaries::fullStackGoesOn);
        test("Terms: a full stack with a choice in it", LayoutChoiceBoundaries::fullStackOfChoice);
        test("Terms: at most 48 tokens in all", LayoutChoiceBoundaries::token48And49);
        test("Terms: tokens count though their documents are gone", LayoutChoiceBoundaries::tokensOfSpentDocuments);
        test("Terms: TEXT n from 0 to 40", LayoutChoiceBoundaries::textRange);
        test("Terms: INDENT n from 0 to 20", LayoutChoiceBoundaries::indentRange);
        test("Terms: INDENT changes width and last of every box", LayoutChoiceBoundaries::indentOfAllBoxes);
        test("Terms: BESIDE, the second from the top is the first", LayoutChoiceBoundaries::besideOrder);
        test("Terms: BESIDE, the greater of w and l + v", LayoutChoiceBoundaries::besideGreater);
        test("Terms: BESIDE, line ends h + i", LayoutChoiceBoundaries::besideLineEnds);
        test("Terms: BELOW, the second from the top is the first", LayoutChoiceBoundaries::belowOrder);
        test("Terms: BELOW, the greater of w and v", LayoutChoiceBoundaries::belowGreater);
        test("Terms: BELOW, line ends h + i + 1", LayoutChoiceBoundaries::belowLineEnds);
        test("Terms: EITHER, the boxes of both", LayoutChoiceBoundaries::eitherOfBoth);
        test("Terms: EITHER, boxes that are nearly the same", LayoutChoiceBoundaries::eitherOfNearlySame);
        test("Terms: at most 6 EITHER tokens", LayoutChoiceBoundaries::either6And7);
        test("Terms: EITHER tokens count though their documents are gone", LayoutChoiceBoundaries::eithersApart);
        test("Terms: the set with the most boxes", LayoutChoiceBoundaries::mostBoxes);
        test("Terms: the widest box and the highest one", LayoutChoiceBoundaries::greatestBoxes);
        test("Promise 1: the stack is empty", LayoutChoiceBoundaries::newObject);
        test("Promise 2: n is looked at for TEXT and INDENT only", LayoutChoiceBoundaries::nNotLookedAt);
        test("Promise 2: code not from 0 to 4", LayoutChoiceBoundaries::codeRange);
        test("Promise 2: too few documents for two", LayoutChoiceBoundaries::tooFewForTwo);
        test("Promise 2: too few documents for INDENT", LayoutChoiceBoundaries::tooFewForIndent);
        test("Promise 2: more than one ground to refuse", LayoutChoiceBoundaries::manyGrounds);
        test("Promise 3: clear of nothing", LayoutChoiceBoundaries::clearOfNothing);
        test("Promise 3: clear removes documents", LayoutChoiceBoundaries::clearOfFullStack);
        test("Promise 3: clear removes all 48 tokens", LayoutChoiceBoundaries::clearOf48Tokens);
        test("Promise 3: clear removes all 6 EITHER tokens", LayoutChoiceBoundaries::clearOf6Eithers);
        test("Promise 3: clear leaves no box behind", LayoutChoiceBoundaries::clearOfManyBoxes);
        test("Promises 4 to 8: no such document on an empty stack", LayoutChoiceBoundaries::noDocumentEmpty);
        test("Promises 4 to 8: no such document on one", LayoutChoiceBoundaries::noDocumentOne);
        test("Promises 4 to 8: no such document on a full stack", LayoutChoiceBoundaries::noDocumentFull);
        test("Promise 4: 0 is the top one", LayoutChoiceBoundaries::documentNumbers);
        test("Promise 4: width is at most width", LayoutChoiceBoundaries::linesAtMost);
        test("Promise 4: -1 if there is none", LayoutChoiceBoundaries::linesNone);
        test("Promise 5: at most lines line ends", LayoutChoiceBoundaries::widthAtMost);
        test("Promise 5: -1 if there is none", LayoutChoiceBoundaries::widthNone);
        test("Promise 6: price from 0 to 100, or the nearest", LayoutChoiceBoundaries::priceRange);
        test("Promise 6: room from 0 to 200, or the nearest", LayoutChoiceBoundaries::roomRange);
        test("Promise 6: width - room, if that is above 0", LayoutChoiceBoundaries::overRoom);
        test("Promise 6: the least sum", LayoutChoiceBoundaries::costLeast);
        test("Promise 6: the greatest costs", LayoutChoiceBoundaries::costGreatest);
        test("Promise 7: different boxes", LayoutChoiceBoundaries::bestDifferent);
        test("Promise 7: as few or fewer line ends", LayoutChoiceBoundaries::bestLineEnds);
        test("Promise 7: as small or smaller width", LayoutChoiceBoundaries::bestWidth);
        test("Promise 7: as small or smaller last", LayoutChoiceBoundaries::bestLast);
        test("Promise 8: at most lines line ends", LayoutChoiceBoundaries::lastAtMostLines);
        test("Promise 8: a width of at most width", LayoutChoiceBoundaries::lastAtMostWidth);
        test("Promise 8: one box keeps to both", LayoutChoiceBoundaries::lastBoth);
        test("Promise 8: -1 if there is none", LayoutChoiceBoundaries::lastNone);
        System.out.println(wrong == 0 ? "all answers are as due" : wrong + " answers are not as due");
        if (wrong != 0) {
            System.exit(1);
        }
    }

    private static void test(String name, Runnable calls) {
        sentence = name;
        try {
            calls.run();
        } catch (RuntimeException thrown) {
            wrong++;
            System.out.println(sentence + ": " + thrown);
        }
    }

    private static void due(String call, int got, int want) {
        if (got != want) {
            wrong++;
            System.out.println(sentence + ": " + call + " answered " + got + ", due is " + want);
        }
    }

    /** An object whose every call is made with the answer that is due, and counted. */
    private static final class Page {
        private final LayoutChoice it = new LayoutChoice();
        private int calls = 0;

        Page() {
        }

        /** The tokens, given as code, n, code, n ..., are all to be taken. */
        Page(int... codesAndNs) {
            take(codesAndNs);
        }

        void take(int... codesAndNs) {
            for (int i = 0; i < codesAndNs.length; i += 2) {
                count();
                int got = it.token(codesAndNs[i], codesAndNs[i + 1]);
                if (got < 1) {
                    due("token(" + codesAndNs[i] + ", " + codesAndNs[i + 1] + "), to be taken,", got, 1);
                }
            }
        }

        // What is answered after the 512th call is free, so a test of it would be a test of nothing.
        private void count() {
            calls++;
            if (calls == 513) {
                due("the test itself, by more than 512 calls,", 513, 512);
            }
        }

        void token(int code, int n, int want) {
            count();
            due("token(" + code + ", " + n + ")", it.token(code, n), want);
        }

        void clear() {
            count();
            it.clear();
        }

        void lines(int k, int width, int want) {
            count();
            due("lines(" + k + ", " + width + ")", it.lines(k, width), want);
        }

        void width(int k, int lines, int want) {
            count();
            due("width(" + k + ", " + lines + ")", it.width(k, lines), want);
        }

        void cost(int k, int price, int room, int want) {
            count();
            due("cost(" + k + ", " + price + ", " + room + ")", it.cost(k, price, room), want);
        }

        void best(int k, int want) {
            count();
            due("best(" + k + ")", it.best(k), want);
        }

        void last(int k, int lines, int width, int want) {
            count();
            due("last(" + k + ", " + lines + ", " + width + ")", it.last(k, lines, width), want);
        }

        void isBox(int k, int ends, int wide, int lastWidth) {
            best(k, 1);
            lines(k, wide, ends);
            lines(k, wide - 1, -1);
            width(k, ends, wide);
            width(k, ends - 1, -1);
            last(k, ends, wide, lastWidth);
        }

        void isNoDocument(int k) {
            lines(k, MAX, -1);
            width(k, MAX, -1);
            cost(k, 0, 200, -1);
            best(k, -1);
            last(k, MAX, MAX, -1);
        }
    }

    // ---- What it is

    private static void the512thCall() {
        for (int kind = 0; kind < 6; kind++) {
            Page x = new Page(TEXT, 3, TEXT, 5, BELOW, 0);
            while (x.calls < 511) {
                x.token(INDENT, 21, -1);
            }
            switch (kind) {
                case 0 -> x.token(TEXT, 0, 2);
                case 1 -> x.lines(0, 5, 1);
                case 2 -> x.width(0, 1, 5);
                case 3 -> x.cost(0, 10, 4, 11);
                case 4 -> x.best(0, 1);
                default -> x.last(0, 1, 5, 5);
            }
        }
        Page x = new Page();
        while (x.calls < 510) {
            x.take(TEXT, 1);
            x.clear();
        }
        x.take(TEXT, 4);
        x.width(0, 0, 4);
    }

    // ---- Terms

    private static void codes() {
        due("TEXT", LayoutChoice.TEXT, TEXT);
        due("BESIDE", LayoutChoice.BESIDE, BESIDE);
        due("BELOW", LayoutChoice.BELOW, BELOW);
        due("INDENT", LayoutChoice.INDENT, INDENT);
        due("EITHER", LayoutChoice.EITHER, EITHER);
    }

    private static void boxOfZeros() {
        Page x = new Page(TEXT, 0);
        x.isBox(0, 0, 0, 0);
        x.cost(0, 100, 0, 0);
        x.take(TEXT, 0, BESIDE, 0);
        x.isBox(0, 0, 0, 0);
        x.take(INDENT, 0);
        x.isBox(0, 0, 0, 0);
        x.take(TEXT, 0, EITHER, 0);
        x.isBox(0, 0, 0, 0);
        x.take(TEXT, 0, BELOW, 0);
        x.isBox(0, 1, 0, 0);
    }

    private static Page tenTexts() {
        Page x = new Page();
        for (int i = 1; i <= 10; i++) {
            x.token(TEXT, i, i);
        }
        return x;
    }

    private static void tenDocuments() {
        Page x = tenTexts();
        x.token(TEXT, 11, -1);
        x.token(TEXT, 0, -1);
        for (int k = 0; k < 10; k++) {
            x.isBox(k, 0, 10 - k, 10 - k);
        }
        // Two off and one on leave room for one more, and for no second one.
        x.token(BESIDE, 0, 9);
        x.token(TEXT, 12, 10);
        x.token(TEXT, 13, -1);
        x.isBox(0, 0, 12, 12);
        x.isBox(1, 0, 19, 19);
        x.isBox(2, 0, 8, 8);
        x.isBox(9, 0, 1, 1);
    }

    private static void fullStackGoesOn() {
        Page x = tenTexts();
        x.token(INDENT, 20, 10);
        x.isBox(0, 0, 30, 30);
        x.isBox(1, 0, 9, 9);
        x = tenTexts();
        x.token(BESIDE, 0, 9);
        x.isBox(0, 0, 19, 19);
        x.isBox(1, 0, 8, 8);
        x = tenTexts();
        x.token(BELOW, 0, 9);
        x.isBox(0, 1, 10, 10);
        x.isBox(1, 0, 8, 8);
        x = tenTexts();
        x.token(EITHER, 0, 9);
        x.width(0, 0, 9);
        x.lines(0, 8, -1);
        x.isBox(1, 0, 8, 8);
    }

    private static void fullStackOfChoice() {
        // The ninth document has two boxes, and the tenth is put beside both, or below both.
        for (int[] widths : new int[][] {{12, 9}, {9, 12}}) {
            for (int code : new int[] {BESIDE, BELOW}) {
                Page x = new Page(TEXT, 1, TEXT, 2, TEXT, 3, TEXT, 4, TEXT, 5, TEXT, 6, TEXT, 7, TEXT, 8);
                x.take(TEXT, widths[0], TEXT, widths[1], EITHER, 0);
                x.token(TEXT, 5, 10);
                x.token(code, 0, 9);
                x.isBox(0, code == BESIDE ? 0 : 1, code == BESIDE ? 14 : 9, code == BESIDE ? 14 : 5);
                x.isBox(1, 0, 8, 8);
            }
        }
    }

    private static void token48And49() {
        // Each code once as the last token that is taken, and each once as the first that is not.
        int[] left = {3, 1, 1, 2, 1};
        for (int code = 0; code <= 4; code++) {
            Page x = new Page(TEXT, 1, TEXT, 2);
            for (int i = 3; i <= 47; i++) {
                x.token(INDENT, 1, 2);
            }
            x.token(code, 1, left[code]);
            for (int more = 0; more <= 4; more++) {
                x.token(more, 0, -1);
            }
            x.best(0, 1);
            x.best(left[code] - 1, 1);
            x.best(left[code], -1);
        }
        Page x = new Page(TEXT, 1, TEXT, 2);
        for (int i = 3; i <= 48; i++) {
            x.token(INDENT, 1, 2);
        }
        for (int code = 0; code <= 4; code++) {
            x.token(code, 1, -1);
        }
        x.isBox(0, 0, 48, 48);
        x.isBox(1, 0, 1, 1);
    }

    private static void tokensOfSpentDocuments() {
        Page x = new Page(TEXT, 1);
        for (int i = 0; i < 23; i++) {
            x.token(TEXT, 1, 2);
            x.token(i % 2 == 0 ? BESIDE : BELOW, 0, 1);
        }
        x.token(TEXT, 1, 2);
        x.token(BESIDE, 0, -1);
        x.token(BELOW, 0, -1);
        x.token(INDENT, 0, -1);
        x.isBox(0, 0, 1, 1);
        x.lines(1, MAX, 11);
    }

    private static void textRange() {
        for (int n : new int[] {0, 1, 39, 40}) {
            Page x = new Page();
            x.token(TEXT, n, 1);
            x.isBox(0, 0, n, n);
        }
        // Some of these are in the range if they are cut to fewer bits.
        for (int n : new int[] {-1, 41, -40, -41, 64, 128, 256, 65536, MIN, MIN + 1, MAX - 1, MAX}) {
            Page x = new Page();
            x.token(TEXT, n, -1);
            x.isNoDocument(0);
        }
    }

    private static void indentRange() {
        for (int n : new int[] {0, 1, 19, 20}) {
            Page x = new Page(TEXT, 7);
            x.token(INDENT, n, 1);
            x.isBox(0, 0, 7 + n, 7 + n);
        }
        for (int n : new int[] {-1, 21, 40, 41, -20, -21, 64, 256, 65536, MIN, MIN + 1, MAX - 1, MAX}) {
            Page x = new Page(TEXT, 7);
            x.token(INDENT, n, -1);
            x.isBox(0, 0, 7, 7);
        }
    }

    private static void indentOfAllBoxes() {
        // (0, 12, 12), (1, 9, 4) and (2, 7, 2), and one below that stays.
        Page x = new Page(TEXT, 5, TEXT, 12, TEXT, 9, TEXT, 4, BELOW, 0, EITHER, 0,
                TEXT, 7, TEXT, 7, BELOW, 0, TEXT, 2, BELOW, 0, EITHER, 0, INDENT, 20);
        x.best(0, 3);
        x.last(0, 0, 32, 32);
        x.last(0, 0, 31, -1);
        x.last(0, 1, 29, 24);
        x.last(0, 1, 28, -1);
        x.last(0, 2, 27, 22);
        x.last(0, 2, 26, -1);
        x.isBox(1, 0, 5, 5);
    }

    private static void besideOrder() {
        // (1, 9, 4) beside (0, 6, 6), and the other way round
        Page x = new Page(TEXT, 9, TEXT, 4, BELOW, 0, TEXT, 6, BESIDE, 0);
        x.isBox(0, 1, 10, 10);
        x = new Page(TEXT, 6, TEXT, 9, TEXT, 4, BELOW, 0, BESIDE, 0);
        x.isBox(0, 1, 15, 10);
    }

    private static void besideGreater() {
        // w is 9 and l is 4: l + v is less than w, the same, more.
        for (int v = 0; v <= 10; v++) {
            Page x = new Page(TEXT, 9, TEXT, 4, BELOW, 0, TEXT, v, BESIDE, 0);
            x.isBox(0, 1, v <= 5 ? 9 : 4 + v, 4 + v);
        }
        // The width of the second counts for the width, its last for the last.
        Page x = new Page(TEXT, 9, TEXT, 4, BELOW, 0, TEXT, 8, TEXT, 3, BELOW, 0, BESIDE, 0);
        x.isBox(0, 2, 12, 7);
        x = new Page(TEXT, 0, TEXT, 8, BESIDE, 0);
        x.isBox(0, 0, 8, 8);
        x = new Page(TEXT, 8, TEXT, 0, BESIDE, 0);
        x.isBox(0, 0, 8, 8);
    }

    private static Page ofLineEnds(Page x, int ends) {
        x.take(TEXT, 1);
        for (int i = 0; i < ends; i++) {
            x.take(TEXT, 1, BELOW, 0);
        }
        return x;
    }

    private static void besideLineEnds() {
        for (int h = 0; h <= 3; h++) {
            for (int i = 0; i <= 3; i++) {
                Page x = ofLineEnds(ofLineEnds(new Page(), h), i);
                x.token(BESIDE, 0, 1);
                x.isBox(0, h + i, 2, 2);
            }
        }
    }

    private static void belowOrder() {
        Page x = new Page(TEXT, 9, TEXT, 4, BELOW, 0);
        x.isBox(0, 1, 9, 4);
        x = new Page(TEXT, 4, TEXT, 9, BELOW, 0);
        x.isBox(0, 1, 9, 9);
    }

    private static void belowGreater() {
        for (int v = 7; v <= 11; v++) {
            Page x = new Page(TEXT, 9, TEXT, v, BELOW, 0);
            x.isBox(0, 1, v <= 9 ? 9 : v, v);
        }
        // The last of the second, not its width: (1, 9, 4) below 3 and below 12.
        Page x = new Page(TEXT, 3, TEXT, 9, TEXT, 4, BELOW, 0, BELOW, 0);
        x.isBox(0, 2, 9, 4);
        x = new Page(TEXT, 12, TEXT, 9, TEXT, 4, BELOW, 0, BELOW, 0);
        x.isBox(0, 2, 12, 4);
    }

    private static void belowLineEnds() {
        for (int h = 0; h <= 3; h++) {
            for (int i = 0; i <= 3; i++) {
                Page x = ofLineEnds(ofLineEnds(new Page(), h), i);
                x.token(BELOW, 0, 1);
                x.isBox(0, h + i + 1, 1, 1);
            }
        }
    }

    private static void eitherOfBoth() {
        // (0, 12, 12) and (1, 9, 4), in both orders
        Page x = new Page(TEXT, 12, TEXT, 9, TEXT, 4, BELOW, 0);
        x.token(EITHER, 0, 1);
        Page y = new Page(TEXT, 9, TEXT, 4, BELOW, 0, TEXT, 12);
        y.token(EITHER, 0, 1);
        for (Page either : new Page[] {x, y}) {
            either.best(0, 2);
            either.width(0, 0, 12);
            either.width(0, 1, 9);
            either.last(0, 0, 12, 12);
            either.last(0, 1, 9, 4);
            either.isNoDocument(1);
        }
        x = new Page(TEXT, 6, TEXT, 6);
        x.token(EITHER, 0, 1);
        x.isBox(0, 0, 6, 6);
    }

    private static void eitherOfNearlySame() {
        // The boxes differ by 1 in last alone, in width alone, in line ends alone; neither may stand for the other.
        for (int order = 0; order < 2; order++) {
            Page x = either(order, new int[] {9, 4}, new int[] {9, 5});
            x.last(0, 1, 9, 4);
            x = either(order, new int[] {9, 4}, new int[] {8, 4});
            x.width(0, 1, 8);
            x = either(order, new int[] {9, 4}, new int[] {9, 9, 4});
            x.lines(0, 9, 1);
        }
    }

    /** The choice of two boxes, each made by BELOW from the widths given, in this order or in the other. */
    private static Page either(int order, int[] one, int[] other) {
        Page x = new Page();
        for (int[] widths : order == 0 ? new int[][] {one, other} : new int[][] {other, one}) {
            x.take(TEXT, widths[0]);
            for (int i = 1; i < widths.length; i++) {
                x.take(TEXT, widths[i], BELOW, 0);
            }
        }
        x.take(EITHER, 0);
        return x;
    }

    private static void either6And7() {
        Page x = new Page(TEXT, 20);
        for (int i = 1; i <= 6; i++) {
            x.token(TEXT, 20 - i, 2);
            x.token(EITHER, 0, 1);
        }
        x.token(TEXT, 1, 2);
        x.token(EITHER, 0, -1);
        x.token(EITHER, 0, -1);
        x.isBox(0, 0, 1, 1);
        x.isBox(1, 0, 14, 14);
        // All other tokens are taken as before.
        x.token(INDENT, 1, 2);
        x.token(BESIDE, 0, 1);
        x.isBox(0, 0, 16, 16);
        x.token(TEXT, 2, 2);
        x.token(BELOW, 0, 1);
        x.isBox(0, 1, 16, 2);
    }

    private static void eithersApart() {
        // Each EITHER has texts of its own, so that no document is made by more than one of them.
        Page x = new Page();
        for (int i = 1; i <= 6; i++) {
            x.token(TEXT, i, i);
            x.token(TEXT, 40, i + 1);
            x.token(EITHER, 0, i);
        }
        x.token(EITHER, 0, -1);
        for (int left = 5; left >= 1; left--) {
            x.token(BESIDE, 0, left);
        }
        x.width(0, 0, 21);
        x.token(TEXT, 0, 2);
        x.token(EITHER, 0, -1);
    }

    /** 45 tokens; the one document has 64 boxes, each of them BEST. */
    private static void take64Boxes(Page x) {
        x.take(TEXT, 19, TEXT, 10, TEXT, 12, BELOW, 0, TEXT, 10, BELOW, 0, TEXT, 31, BELOW, 0, TEXT, 7, BELOW, 0,
                EITHER, 0);
        x.take(TEXT, 30, TEXT, 40, TEXT, 19, BELOW, 0, TEXT, 24, BELOW, 0, EITHER, 0, BESIDE, 0);
        x.take(TEXT, 21, TEXT, 34, BELOW, 0, TEXT, 37, EITHER, 0, BESIDE, 0);
        x.take(TEXT, 5, TEXT, 34, TEXT, 0, BELOW, 0, EITHER, 0, BESIDE, 0);
        x.take(TEXT, 22, TEXT, 31, TEXT, 25, BELOW, 0, TEXT, 1, BELOW, 0, EITHER, 0, BESIDE, 0);
        x.take(TEXT, 8, TEXT, 9, TEXT, 1, BELOW, 0, EITHER, 0, BESIDE, 0);
    }

    private static void are64Boxes(Page x, int k) {
        int[] leastWidth = {121, 118, 115, 112, 109, 106, 103, 100, 99, 99, 99, 99, 99};
        int[] leastLast = {121, 114, 100, 93, 88, 85, 82, 79, 76, 73, 70, 67, 67};
        x.best(k, 64);
        for (int ends = 0; ends <= 12; ends++) {
            x.width(k, ends, leastWidth[ends]);
            x.last(k, ends, MAX, leastLast[ends]);
        }
        x.lines(k, 99, 8);
        x.lines(k, 98, -1);
    }

    private static void mostBoxes() {
        Page x = new Page();
        take64Boxes(x);
        are64Boxes(x, 0);
        x = new Page(TEXT, 3);
        take64Boxes(x);
        x.token(TEXT, 5, 3);
        are64Boxes(x, 1);
        x.isBox(0, 0, 5, 5);
        x.isBox(2, 0, 3, 3);
        x.token(INDENT, 1, 3);
        x.isBox(0, 0, 6, 6);
        are64Boxes(x, 1);
        // Below a text each has one line end more and is as good as before beside the others.
        x = new Page(TEXT, 3);
        take64Boxes(x);
        x.token(BELOW, 0, 1);
        x.best(0, 64);
        x.width(0, 1, 121);
        x.width(0, 0, -1);
        x.last(0, 12, MAX, 67);
        x.last(0, 11, MAX, 70);
    }

    private static void greatestBoxes() {
        Page wide = new Page(TEXT, 40);
        for (int i = 0; i < 47; i++) {
            wide.token(INDENT, 20, 1);
        }
        wide.isBox(0, 0, 980, 980);
        Page beside = new Page(TEXT, 40);
        Page high = new Page(TEXT, 40);
        for (int i = 0; i < 23; i++) {
            beside.take(TEXT, 40, BESIDE, 0);
            high.take(TEXT, 40, BELOW, 0);
        }
        beside.isBox(0, 0, 960, 960);
        high.isBox(0, 23, 40, 40);
    }

    // ---- Promise 1

    private static void newObject() {
        new Page().isNoDocument(0);
        for (int code : new int[] {BESIDE, BELOW, INDENT, EITHER}) {
            new Page().token(code, 0, -1);
        }
        new Page().token(TEXT, 0, 1);
    }

    // ---- Promise 2

    private static void nNotLookedAt() {
        for (int n : new int[] {MIN, -1, 0, 20, 21, 40, 41, MAX}) {
            Page x = new Page(TEXT, 9, TEXT, 4);
            x.token(BESIDE, n, 1);
            x.isBox(0, 0, 13, 13);
            x = new Page(TEXT, 9, TEXT, 4);
            x.token(BELOW, n, 1);
            x.isBox(0, 1, 9, 4);
            x = new Page(TEXT, 9, TEXT, 4, TEXT, 9, BELOW, 0);
            x.token(EITHER, n, 1);
            x.isBox(0, 0, 9, 9);
        }
    }

    private static void codeRange() {
        // Some of these are codes if they are cut to fewer bits or turned round.
        for (int code : new int[] {-1, -2, -3, -4, -5, 5, 6, 7, 8, 16, 256, 257, 65536, MIN, MIN + 1, MAX - 1, MAX}) {
            Page x = new Page(TEXT, 9, TEXT, 4);
            x.token(code, 0, -1);
            x.token(code, 10, -1);
            x.isBox(0, 0, 4, 4);
            x.isBox(1, 0, 9, 9);
            x.isNoDocument(2);
        }
        int[] left = {3, 1, 1, 2, 1};
        for (int code = 0; code <= 4; code++) {
            new Page(TEXT, 9, TEXT, 4).token(code, 0, left[code]);
        }
    }

    private static void tooFewForTwo() {
        for (int code : new int[] {BESIDE, BELOW, EITHER}) {
            Page x = new Page();
            x.token(code, 0, -1);
            x.isNoDocument(0);
            x.token(TEXT, 6, 1);
            x.token(code, 0, -1);
            x.isBox(0, 0, 6, 6);
            x.isNoDocument(1);
            x.token(TEXT, 6, 2);
            x.token(code, 0, 1);
            x.token(code, 0, -1);
            x.clear();
            x.token(code, 0, -1);
            x.isNoDocument(0);
        }
    }

    private static void tooFewForIndent() {
        Page x = new Page();
        x.token(INDENT, 0, -1);
        x.token(INDENT, 20, -1);
        x.isNoDocument(0);
        x.token(TEXT, 6, 1);
        x.token(INDENT, 0, 1);
        x.token(INDENT, 20, 1);
        x.isBox(0, 0, 26, 26);
        x.clear();
        x.token(INDENT, 0, -1);
        x.isNoDocument(0);
    }

    private static void manyGrounds() {
        Page x = new Page();
        x.token(INDENT, 21, -1);
        x.token(5, -1, -1);
        x = tenTexts();
        x.token(TEXT, 41, -1);
        x.token(TEXT, -1, -1);
        for (int i = 11; i <= 48; i++) {
            x.token(INDENT, 0, 10);
        }
        x.token(TEXT, 41, -1);
        x.token(TEXT, 0, -1);
        x.token(MAX, MAX, -1);
        x.token(MIN, MIN, -1);
        x.isBox(0, 0, 10, 10);
    }

    // ---- Promise 3

    private static void clearOfNothing() {
        Page x = new Page();
        x.clear();
        x.isNoDocument(0);
        x.clear();
        x.token(BESIDE, 0, -1);
        x.token(TEXT, 7, 1);
        x.isBox(0, 0, 7, 7);
        x.clear();
        x.clear();
        x.isNoDocument(0);
    }

    private static void clearOfFullStack() {
        Page x = tenTexts();
        x.clear();
        for (int k = 0; k < 10; k++) {
            x.isNoDocument(k);
        }
        for (int i = 1; i <= 10; i++) {
            x.token(TEXT, 20 + i, i);
        }
        x.token(TEXT, 0, -1);
        x.isBox(0, 0, 30, 30);
        x.isBox(9, 0, 21, 21);
    }

    private static void clearOf48Tokens() {
        Page x = new Page();
        for (int round = 0; round < 3; round++) {
            x.token(TEXT, 1, 1);
            for (int i = 2; i <= 48; i++) {
                x.token(INDENT, 1, 1);
            }
            x.token(INDENT, 1, -1);
            x.token(TEXT, 1, -1);
            x.isBox(0, 0, 48, 48);
            x.clear();
        }
    }

    private static void clearOf6Eithers() {
        Page x = new Page();
        for (int round = 0; round < 3; round++) {
            x.token(TEXT, 9, 1);
            for (int i = 1; i <= 6; i++) {
                x.token(TEXT, i, 2);
                x.token(EITHER, 0, 1);
            }
            x.token(TEXT, 9, 2);
            x.token(EITHER, 0, -1);
            x.clear();
        }
    }

    private static void clearOfManyBoxes() {
        Page x = new Page();
        take64Boxes(x);
        x.clear();
        x.isNoDocument(0);
        x.token(TEXT, 40, 1);
        x.isBox(0, 0, 40, 40);
        x.token(TEXT, 39, 2);
        x.token(BELOW, 0, 1);
        x.isBox(0, 1, 40, 39);
        x.clear();
        take64Boxes(x);
        are64Boxes(x, 0);
    }

    // ---- Promises 4 to 8: document number k

    private static void noDocumentEmpty() {
        Page x = new Page();
        for (int k : new int[] {0, -1, 1, 9, 10, MIN, MAX}) {
            x.isNoDocument(k);
        }
    }

    private static void noDocumentOne() {
        Page x = new Page(TEXT, 6);
        for (int k : new int[] {-1, 1, 2, 9, 10, 11, 256, MIN, MIN + 1, MAX - 1, MAX}) {
            x.isNoDocument(k);
        }
        x.isBox(0, 0, 6, 6);
    }

    private static void noDocumentFull() {
        Page x = tenTexts();
        for (int k : new int[] {-1, 10, 11, 12, 100, MIN, MIN + 1, MAX - 1, MAX}) {
            x.isNoDocument(k);
        }
        x.isBox(0, 0, 10, 10);
        x.isBox(9, 0, 1, 1);
        // A document that was taken off is no more.
        x.token(BESIDE, 0, 9);
        x.isNoDocument(9);
        x.isBox(8, 0, 1, 1);
    }

    private static void documentNumbers() {
        Page x = tenTexts();
        for (int k = 0; k < 10; k++) {
            x.lines(k, 10 - k, 0);
            x.lines(k, 9 - k, -1);
            x.width(k, 0, 10 - k);
            x.cost(k, 0, 0, (10 - k) * (10 - k));
            x.best(k, 1);
            x.last(k, 0, 10, 10 - k);
        }
    }

    /** The boxes (0, 25, 25), (1, 14, 9), (2, 9, 3) and, which is not best, (2, 9, 9). */
    private static Page fourBoxes() {
        return new Page(TEXT, 25, TEXT, 14, TEXT, 9, BELOW, 0, EITHER, 0,
                TEXT, 9, TEXT, 9, BELOW, 0, TEXT, 3, BELOW, 0, EITHER, 0,
                TEXT, 9, TEXT, 9, BELOW, 0, TEXT, 9, BELOW, 0, EITHER, 0);
    }

    // ---- Promise 4

    private static void linesAtMost() {
        Page x = fourBoxes();
        x.lines(0, MAX, 0);
        x.lines(0, 26, 0);
        x.lines(0, 25, 0);
        x.lines(0, 24, 1);
        x.lines(0, 15, 1);
        x.lines(0, 14, 1);
        x.lines(0, 13, 2);
        x.lines(0, 10, 2);
        x.lines(0, 9, 2);
        x.lines(0, 8, -1);
        Page zero = new Page(TEXT, 0);
        zero.lines(0, 0, 0);
        zero.lines(0, 1, 0);
    }

    private static void linesNone() {
        Page x = fourBoxes();
        for (int width : new int[] {8, 1, 0, -1, MIN + 1, MIN}) {
            x.lines(0, width, -1);
        }
        Page zero = new Page(TEXT, 0);
        zero.lines(0, -1, -1);
        zero.lines(0, MIN, -1);
    }

    // ---- Promise 5

    private static void widthAtMost() {
        Page x = fourBoxes();
        x.width(0, 0, 25);
        x.width(0, 1, 14);
        x.width(0, 2, 9);
        x.width(0, 3, 9);
        x.width(0, MAX, 9);
        // The higher box is not always the narrower one: (0, 5, 5) and (1, 8, 8).
        x = new Page(TEXT, 5, TEXT, 8, TEXT, 8, BELOW, 0, EITHER, 0);
        x.width(0, 0, 5);
        x.width(0, 1, 5);
    }

    private static void widthNone() {
        Page x = fourBoxes();
        for (int lines : new int[] {-1, -2, MIN + 1, MIN}) {
            x.width(0, lines, -1);
        }
        x = new Page(TEXT, 3, TEXT, 3, BELOW, 0, TEXT, 3, BELOW, 0);
        x.width(0, 0, -1);
        x.width(0, 1, -1);
        x.width(0, 2, 3);
    }

    // ---- Promise 6

    private static void priceRange() {
        Page x = new Page(TEXT, 3, TEXT, 3, BELOW, 0, TEXT, 3, BELOW, 0);
        int[] prices = {MIN, MIN + 1, -100, -1, 0, 1, 2, 50, 99, 100, 101, 102, 256, MAX - 1, MAX};
        int[] costs = {0, 0, 0, 0, 0, 2, 4, 100, 198, 200, 200, 200, 200, 200, 200};
        for (int i = 0; i < prices.length; i++) {
            x.cost(0, prices[i], 3, costs[i]);
        }
    }

    private static void roomRange() {
        Page x = new Page(TEXT, 40);
        for (int i = 0; i < 9; i++) {
            x.token(INDENT, 20, 1);
        }
        x.isBox(0, 0, 220, 220);
        int[] rooms = {MIN, MIN + 1, -200, -1, 0, 1, 2, 100, 199, 200, 201, 202, 220, 256, MAX - 1, MAX};
        int[] costs = {48400, 48400, 48400, 48400, 48400, 47961, 47524, 14400, 441, 400, 400, 400, 400, 400, 400,
            400};
        for (int i = 0; i < rooms.length; i++) {
            x.cost(0, 0, rooms[i], costs[i]);
        }
    }

    private static void overRoom() {
        Page x = new Page(TEXT, 10);
        int[] rooms = {0, 7, 8, 9, 10, 11, 12, 20, 200};
        int[] costs = {100, 9, 4, 1, 0, 0, 0, 0, 0};
        for (int i = 0; i < rooms.length; i++) {
            x.cost(0, 100, rooms[i], costs[i]);
        }
        Page zero = new Page(TEXT, 0);
        zero.cost(0, 100, 0, 0);
        zero.cost(0, 100, -1, 0);
        zero.cost(0, 100, MIN, 0);
        zero.cost(0, 100, 200, 0);
    }

    private static void costLeast() {
        // (0, 25, 25) and (1, 14, 9) and (2, 9, 3): over 13 by 12, 1, and not.
        Page x = fourBoxes();
        x.cost(0, 0, 13, 0);
        x.cost(0, 1, 13, 2);
        x.cost(0, 2, 13, 3);
        x.cost(0, 100, 13, 101);
        // Over 16 by 9, then not at all: 81 against one line end.
        x.cost(0, 80, 16, 80);
        x.cost(0, 81, 16, 81);
        x.cost(0, 82, 16, 81);
    }

    private static void costGreatest() {
        Page wide = new Page(TEXT, 40);
        for (int i = 0; i < 47; i++) {
            wide.token(INDENT, 20, 1);
        }
        wide.cost(0, 100, 0, 960400);
        wide.cost(0, MAX, MIN, 960400);
        wide.cost(0, MAX, MAX, 608400);
        Page high = new Page(TEXT, 40);
        for (int i = 0; i < 23; i++) {
            high.take(TEXT, 40, BELOW, 0);
        }
        high.cost(0, MAX, MIN, 3900);
        high.cost(0, 100, 0, 3900);
        high.cost(0, MAX, MAX, 2300);
        high.cost(0, MIN, MAX, 0);
    }

    // ---- Promise 7

    private static void bestDifferent() {
        new Page(TEXT, 7).best(0, 1);
        // One box from both sides of an EITHER, thrice.
        Page x = new Page(TEXT, 7, TEXT, 7, EITHER, 0);
        x.best(0, 1);
        x.take(TEXT, 7, EITHER, 0);
        x.best(0, 1);
        // Twice (1, 7, 3) beside once (0, 9, 9).
        x = new Page(TEXT, 7, TEXT, 3, BELOW, 0, TEXT, 9, EITHER, 0, TEXT, 7, TEXT, 3, BELOW, 0, EITHER, 0);
        x.best(0, 2);
        // (0, 1, 1) or (1, 0, 0), twice: (1, 1, 1) comes from both orders, as last 1 in width 1.
        x = new Page(TEXT, 1, TEXT, 0, TEXT, 0, BELOW, 0, EITHER, 0,
                TEXT, 1, TEXT, 0, TEXT, 0, BELOW, 0, EITHER, 0, BESIDE, 0);
        x.best(0, 3);
        // BELOW makes one box of two that differ in last alone: (1, 9, 4) and (1, 9, 5), then TEXT 2 below.
        x = new Page(TEXT, 9, TEXT, 4, BELOW, 0, TEXT, 9, TEXT, 5, BELOW, 0, EITHER, 0, TEXT, 2, BELOW, 0);
        x.isBox(0, 2, 9, 2);
    }

    private static void bestOfTwo(int[] one, int[] other, int want) {
        for (int order = 0; order < 2; order++) {
            either(order, one, other).best(0, want);
        }
    }

    private static void bestLineEnds() {
        // The same width and last: the one with fewer line ends is best alone.
        bestOfTwo(new int[] {9, 4}, new int[] {9, 9, 4}, 1);
        bestOfTwo(new int[] {9, 9, 4}, new int[] {9, 9, 9, 4}, 1);
        // One line end more is made good by 1 of width, or by 1 of last.
        bestOfTwo(new int[] {9, 4}, new int[] {8, 8, 4}, 2);
        bestOfTwo(new int[] {9, 4}, new int[] {9, 9, 3}, 2);
    }

    private static void bestWidth() {
        // The same line ends and last: the narrower one is best alone.
        bestOfTwo(new int[] {9, 4}, new int[] {8, 4}, 1);
        // One more of width is made good by one line end, or by 1 of last.
        bestOfTwo(new int[] {9, 4}, new int[] {8, 5}, 2);
        bestOfTwo(new int[] {9, 4}, new int[] {8, 8, 4}, 2);
    }

    private static void bestLast() {
        // The same line ends and width: the one with the smaller last is best alone.
        bestOfTwo(new int[] {9, 4}, new int[] {9, 5}, 1);
        // One more of last is made good by 1 of width, or by one line end.
        bestOfTwo(new int[] {9, 5}, new int[] {10, 4}, 2);
        bestOfTwo(new int[] {9, 5}, new int[] {9, 9, 4}, 2);
        // Worse in all three, and the same in all three.
        bestOfTwo(new int[] {9, 4}, new int[] {10, 10, 5}, 1);
        bestOfTwo(new int[] {9, 4}, new int[] {9, 4}, 1);
    }

    // ---- Promise 8

    private static void lastAtMostLines() {
        Page x = fourBoxes();
        x.last(0, 0, 25, 25);
        x.last(0, 1, 25, 9);
        x.last(0, 2, 25, 3);
        x.last(0, 3, 25, 3);
        x.last(0, MAX, 25, 3);
        x.last(0, -1, 25, -1);
        x.last(0, MIN, 25, -1);
    }

    private static void lastAtMostWidth() {
        Page x = fourBoxes();
        x.last(0, 2, 8, -1);
        x.last(0, 2, 9, 3);
        x.last(0, 1, 13, -1);
        x.last(0, 1, 14, 9);
        x.last(0, 1, 15, 9);
        x.last(0, 0, 24, -1);
        x.last(0, 0, 25, 25);
        x.last(0, 0, MAX, 25);
        x.last(0, 0, MIN, -1);
    }

    private static void lastBoth() {
        // (0, 25, 25) is flat but wide, (2, 9, 3) narrow but high: neither keeps to 1 line end and 13.
        Page x = fourBoxes();
        x.last(0, 1, 13, -1);
        x.last(0, 0, 14, -1);
        // (1, 12, 2) and (1, 9, 4): the least last is not in the narrowest box.
        x = new Page(TEXT, 12, TEXT, 2, BELOW, 0, TEXT, 9, TEXT, 4, BELOW, 0, EITHER, 0);
        x.last(0, 1, 12, 2);
        x.last(0, 1, 11, 4);
        x.last(0, 1, 9, 4);
        x.last(0, 1, 8, -1);
    }

    private static void lastNone() {
        Page x = new Page(TEXT, 0, TEXT, 0, BELOW, 0);
        x.last(0, 1, 0, 0);
        x.last(0, 0, 0, -1);
        x.last(0, 1, -1, -1);
        x.last(0, -1, -1, -1);
        x.last(0, MIN, MIN, -1);
        x.last(0, MIN, MAX, -1);
        x.last(0, MAX, MIN, -1);
        x.last(0, MAX, MAX, 0);
    }
}
