import java.util.ArrayList;
import java.util.Arrays;
import java.util.List;

/**
 * A refused call changes nothing: of two objects with the same calls one makes a refused call besides, and all that
 * both answer later, to the last token and the last EITHER and over a clear, is the same.
 */
public final class LayoutChoiceRefusals {
    private static final int MIN = Integer.MIN_VALUE;
    private static final int MAX = Integer.MAX_VALUE;
    private static final int TEXT = 0;
    private static final int BESIDE = 1;
    private static final int BELOW = 2;
    private static final int INDENT = 3;
    private static final int EITHER = 4;

    private static final int[] EMPTY = {};
    private static final int[] ONE = {TEXT, 6};
    private static final int[] TWO = {TEXT, 6, TEXT, 9, TEXT, 4, BELOW, 0};
    private static final int[] FULL = {TEXT, 1, TEXT, 2, TEXT, 3, TEXT, 4, TEXT, 5, TEXT, 6, TEXT, 7, TEXT, 8, TEXT, 9,
        TEXT, 10};
    // (0, 25, 25), (1, 14, 9) and (2, 9, 3), on a text
    private static final int[] CHOICES = {TEXT, 5, TEXT, 25, TEXT, 14, TEXT, 9, BELOW, 0, EITHER, 0,
        TEXT, 9, TEXT, 9, BELOW, 0, TEXT, 3, BELOW, 0, EITHER, 0};
    private static final int[] FIVE_EITHERS = {TEXT, 9, TEXT, 8, EITHER, 0, TEXT, 7, EITHER, 0, TEXT, 6, EITHER, 0,
        TEXT, 5, EITHER, 0, TEXT, 4, EITHER, 0, TEXT, 3};
    private static final int[] SIX_EITHERS = {TEXT, 9, TEXT, 8, EITHER, 0, TEXT, 7, EITHER, 0, TEXT, 6, EITHER, 0,
        TEXT, 5, EITHER, 0, TEXT, 4, EITHER, 0, TEXT, 3, EITHER, 0, TEXT, 2};

    // Refused in every state: by the code, or by n.
    private static final int[] ALWAYS = {-1, 0, 5, 0, MIN, 0, MAX, 0, TEXT, -1, TEXT, 41, TEXT, MIN, TEXT, MAX,
        INDENT, -1, INDENT, 21, INDENT, MIN, INDENT, MAX};
    private static final int[] ALL_CODES = {TEXT, 3, BESIDE, 0, BELOW, 0, INDENT, 3, EITHER, 0};

    private static int wrong = 0;

    public static void main(String[] args) {
        refused("empty stack", EMPTY, 0, BESIDE, 0, BELOW, 0, INDENT, 3, EITHER, 0);
        refused("one document", ONE, 1, BESIDE, 0, BELOW, 0, EITHER, 0);
        refused("two documents", TWO, 2);
        refused("full stack", FULL, 10, TEXT, 0, TEXT, 3, TEXT, 40);
        refused("choices", CHOICES, 2);
        refused("five EITHER tokens", FIVE_EITHERS, 2);
        refused("six EITHER tokens", SIX_EITHERS, 2, EITHER, 0);
        refused("47 tokens, one document", longer(ONE, 47), 1, BESIDE, 0, BELOW, 0, EITHER, 0);
        refused("47 tokens, choices", longer(CHOICES, 47), 2);
        refused("47 tokens, full stack", longer(FULL, 47), 10, TEXT, 3);
        refused("47 tokens, six EITHER tokens", longer(SIX_EITHERS, 47), 2, EITHER, 0);
        refused("48 tokens, one document", longer(ONE, 48), 1, ALL_CODES);
        refused("48 tokens, choices", longer(CHOICES, 48), 2, ALL_CODES);
        refused("48 tokens, full stack", longer(FULL, 48), 10, ALL_CODES);
        refused("48 tokens, six EITHER tokens", longer(SIX_EITHERS, 48), 2, ALL_CODES);
        System.out.println(wrong == 0 ? "all answers are as due" : wrong + " answers are not as due");
        if (wrong != 0) {
            System.exit(1);
        }
    }

    /** The tokens, and INDENT tokens up to that many. */
    private static int[] longer(int[] tokens, int count) {
        int[] more = Arrays.copyOf(tokens, count * 2);
        for (int i = tokens.length; i < more.length; i += 2) {
            more[i] = INDENT;
            more[i + 1] = 1;
        }
        return more;
    }

    private static void refused(String state, int[] tokens, int documents, int... besidesAlways) {
        for (int[] codesAndNs : new int[][] {ALWAYS, besidesAlways}) {
            for (int i = 0; i < codesAndNs.length; i += 2) {
                refusedToken(state, tokens, codesAndNs[i], codesAndNs[i + 1]);
            }
        }
        for (int k : new int[] {-1, documents, documents + 1, 10, MIN, MAX}) {
            refusedQuestions(state, tokens, k, MAX);
        }
        // There are such documents here, but no box of them that small.
        for (int k = 0; k < documents; k++) {
            refusedQuestions(state, tokens, k, -1);
            refusedQuestions(state, tokens, k, MIN);
        }
    }

    private static LayoutChoice built(String state, int[] tokens) {
        LayoutChoice x = new LayoutChoice();
        for (int i = 0; i < tokens.length; i += 2) {
            if (x.token(tokens[i], tokens[i + 1]) < 1) {
                wrong++;
                System.out.println(state + ": token " + (i / 2 + 1) + " is to be taken and was refused");
            }
        }
        return x;
    }

    private static void due(String state, String call, int got) {
        if (got != -1) {
            wrong++;
            System.out.println(state + ": " + call + " answered " + got + ", due is -1");
        }
    }

    private static void refusedToken(String state, int[] tokens, int code, int n) {
        LayoutChoice x = built(state, tokens);
        String call = "token(" + code + ", " + n + ")";
        // More than once, as a change may come to be seen only by the second.
        for (int i = 0; i < 7; i++) {
            due(state, call, x.token(code, n));
        }
        sameLater(state, call, x, built(state, tokens));
    }

    private static void refusedQuestions(String state, int[] tokens, int k, int most) {
        LayoutChoice x = built(state, tokens);
        String call = "questions of document " + k + " with " + most;
        due(state, call, x.lines(k, most));
        due(state, call, x.width(k, most));
        due(state, call, x.last(k, most, most));
        if (most == MAX) {
            due(state, call, x.cost(k, most, most));
            due(state, call, x.best(k));
        }
        sameLater(state, call, x, built(state, tokens));
    }

    private static void sameLater(String state, String call, LayoutChoice x, LayoutChoice twin) {
        List<Integer> got = later(x);
        List<Integer> want = later(twin);
        for (int i = 0; i < want.size(); i++) {
            if (!got.get(i).equals(want.get(i))) {
                wrong++;
                System.out.println(state + ": after " + call + " the answer " + i + " is " + got.get(i)
                        + ", without it " + want.get(i));
                return;
            }
        }
    }

    /** The answers to some 400 calls, so that an object stays below 512. */
    private static List<Integer> later(LayoutChoice x) {
        List<Integer> answers = new ArrayList<>();
        askAll(x, answers);
        // Up to the last EITHER and, by the INDENT tokens, up to the last token.
        for (int i = 0; i < 8; i++) {
            answers.add(x.token(BELOW, 0));
            answers.add(x.token(TEXT, 2 * i));
            answers.add(x.token(EITHER, 0));
        }
        for (int i = 0; i < 49; i++) {
            answers.add(x.token(INDENT, 1));
        }
        askAll(x, answers);
        x.clear();
        askAll(x, answers);
        for (int i = 0; i < 8; i++) {
            answers.add(x.token(TEXT, 30 - i));
            answers.add(x.token(EITHER, 0));
        }
        answers.add(x.width(0, 0));
        return answers;
    }

    private static void askAll(LayoutChoice x, List<Integer> answers) {
        for (int k = 0; k <= 10; k++) {
            answers.add(x.best(k));
            answers.add(x.lines(k, 14));
            answers.add(x.lines(k, MAX));
            answers.add(x.width(k, 0));
            answers.add(x.width(k, 1));
            answers.add(x.width(k, MAX));
            answers.add(x.cost(k, 10, 8));
            answers.add(x.last(k, 1, MAX));
            answers.add(x.last(k, MAX, MAX));
        }
    }
}
