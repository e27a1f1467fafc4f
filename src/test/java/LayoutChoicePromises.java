import java.lang.reflect.Constructor;
import java.lang.reflect.Field;
import java.lang.reflect.Method;
import java.lang.reflect.Modifier;
import java.util.Arrays;
import java.util.TreeSet;

/** Each promise of the document by hand-reckoned calls: ordinary inputs, named edges, wrong inputs. */
public final class LayoutChoicePromises {
    private static final int MIN = Integer.MIN_VALUE;
    private static final int MAX = Integer.MAX_VALUE;
    private static final int T = LayoutChoice.TEXT;
    private static final int BESIDE = LayoutChoice.BESIDE;
    private static final int BELOW = LayoutChoice.BELOW;
    private static final int INDENT = LayoutChoice.INDENT;
    private static final int EITHER = LayoutChoice.EITHER;

    private static int wrong = 0;

    public static void main(String[] args) {
        face();
        newObject();
        tokenText();
        tokenIndent();
        tokenBeside();
        tokenBelow();
        tokenEither();
        tokenWrongCodes();
        tokenStackFull();
        tokenTooFew();
        tokenLimit();
        tokenEitherLimit();
        mostBoxes();
        clear();
        lines();
        width();
        cost();
        best();
        last();
        documentNumbers();
        refusedChangesNothing();
        objectsApart();
        System.out.println(wrong == 0 ? "all answers are as due" : wrong + " answers are not as due");
        if (wrong != 0) {
            System.exit(1);
        }
    }

    private static void due(String what, long got, long want) {
        if (got != want) {
            wrong++;
            System.out.println(what + " answered " + got + ", due is " + want);
        }
    }

    private static void dueText(String what, String got, String want) {
        if (!got.equals(want)) {
            wrong++;
            System.out.println(what + " is " + got + ", due is " + want);
        }
    }

    /** An object that has taken the tokens, given as code, n, code, n ... */
    private static LayoutChoice built(int... codesAndNs) {
        LayoutChoice x = new LayoutChoice();
        take(x, codesAndNs);
        return x;
    }

    private static void take(LayoutChoice x, int... codesAndNs) {
        for (int i = 0; i < codesAndNs.length; i += 2) {
            if (x.token(codesAndNs[i], codesAndNs[i + 1]) < 0) {
                wrong++;
                System.out.println("refused token " + i / 2 + " of " + Arrays.toString(codesAndNs));
            }
        }
    }

    /** Checks that document k is the one box. */
    private static void dueBox(String what, LayoutChoice x, int k, int lineEnds, int wide, int lastWidth) {
        due(what + ": best", x.best(k), 1);
        due(what + ": line ends", x.lines(k, MAX), lineEnds);
        due(what + ": width", x.width(k, MAX), wide);
        due(what + ": last", x.last(k, MAX, MAX), lastWidth);
    }

    private static void dueEmpty(String what, LayoutChoice x) {
        due(what + ": lines", x.lines(0, MAX), -1);
        due(what + ": width", x.width(0, MAX), -1);
        due(what + ": cost", x.cost(0, 1, 1), -1);
        due(what + ": best", x.best(0), -1);
        due(what + ": last", x.last(0, MAX, MAX), -1);
    }

    private static void face() {
        TreeSet<String> members = new TreeSet<>();
        for (Field field : LayoutChoice.class.getDeclaredFields()) {
            if (!Modifier.isPrivate(field.getModifiers())) {
                members.add(field.toString());
            }
        }
        for (Method method : LayoutChoice.class.getDeclaredMethods()) {
            if (!Modifier.isPrivate(method.getModifiers())) {
                members.add(method.toString());
            }
        }
        for (Constructor<?> constructor : LayoutChoice.class.getDeclaredConstructors()) {
            members.add(constructor.toString());
        }
        TreeSet<String> want = new TreeSet<>(Arrays.asList(
                "public LayoutChoice()",
                "public int LayoutChoice.token(int,int)",
                "public void LayoutChoice.clear()",
                "public int LayoutChoice.lines(int,int)",
                "public int LayoutChoice.width(int,int)",
                "public int LayoutChoice.cost(int,int,int)",
                "public int LayoutChoice.best(int)",
                "public int LayoutChoice.last(int,int,int)",
                "public static final int LayoutChoice.TEXT",
                "public static final int LayoutChoice.BESIDE",
                "public static final int LayoutChoice.BELOW",
                "public static final int LayoutChoice.INDENT",
                "public static final int LayoutChoice.EITHER"));
        dueText("the face", members.toString(), want.toString());
        dueText("the class", Modifier.toString(LayoutChoice.class.getModifiers()), "public final");
        due("TEXT", LayoutChoice.TEXT, 0);
        due("BESIDE", LayoutChoice.BESIDE, 1);
        due("BELOW", LayoutChoice.BELOW, 2);
        due("INDENT", LayoutChoice.INDENT, 3);
        due("EITHER", LayoutChoice.EITHER, 4);
    }

    private static void newObject() {
        dueEmpty("promise 1, new", new LayoutChoice());
        due("promise 1, first token", new LayoutChoice().token(T, 3), 1);
        due("promise 1, BESIDE on nothing", new LayoutChoice().token(BESIDE, 0), -1);
    }

    private static void tokenText() {
        for (int n = 0; n <= 40; n++) {
            LayoutChoice x = new LayoutChoice();
            due("promise 2, TEXT " + n, x.token(T, n), 1);
            dueBox("promise 2, TEXT " + n, x, 0, 0, n, n);
        }
        for (int n : new int[] {-1, 41, MIN, MAX}) {
            LayoutChoice x = new LayoutChoice();
            due("promise 2, TEXT " + n, x.token(T, n), -1);
            dueEmpty("promise 2, TEXT " + n, x);
        }
    }

    private static void tokenIndent() {
        for (int n = 0; n <= 20; n++) {
            // The box (1, 9, 4): width and last both grow, line ends do not.
            LayoutChoice x = built(T, 9, T, 4, BELOW, 0);
            due("promise 2, INDENT " + n, x.token(INDENT, n), 1);
            dueBox("promise 2, INDENT " + n, x, 0, 1, 9 + n, 4 + n);
        }
        for (int n : new int[] {-1, 21, MIN, MAX}) {
            LayoutChoice x = built(T, 9);
            due("promise 2, INDENT " + n, x.token(INDENT, n), -1);
            dueBox("promise 2, INDENT " + n, x, 0, 0, 9, 9);
        }
        LayoutChoice x = built(T, 9, T, 8, T, 3, BELOW, 0, T, 7, EITHER, 0, INDENT, 5);
        due("promise 2, INDENT of two boxes", x.width(0, 1), 12);
        due("promise 2, INDENT of two boxes, last", x.last(0, 1, MAX), 8);
        dueBox("promise 2, INDENT leaves the one below", x, 1, 0, 9, 9);
    }

    private static void tokenBeside() {
        LayoutChoice x = built(T, 5, T, 7);
        due("promise 2, BESIDE", x.token(BESIDE, 0), 1);
        dueBox("promise 2, BESIDE", x, 0, 0, 12, 12);
        // (1, 30, 2) beside (1, 6, 4): the first's width is the greater.
        x = built(T, 30, T, 2, BELOW, 0, T, 6, T, 4, BELOW, 0, BESIDE, 0);
        dueBox("promise 2, BESIDE wide first", x, 0, 2, 30, 6);
        // (1, 6, 4) beside (1, 30, 2): last of the first and width of the second is the greater.
        x = built(T, 6, T, 4, BELOW, 0, T, 30, T, 2, BELOW, 0, BESIDE, 0);
        dueBox("promise 2, BESIDE wide second", x, 0, 2, 34, 6);
        x = built(T, 11, T, 5, T, 7, BESIDE, 0);
        dueBox("promise 2, BESIDE leaves the one below", x, 1, 0, 11, 11);
    }

    private static void tokenBelow() {
        LayoutChoice x = built(T, 5, T, 7);
        due("promise 2, BELOW", x.token(BELOW, 0), 1);
        dueBox("promise 2, BELOW", x, 0, 1, 7, 7);
        x = built(T, 7, T, 5, BELOW, 0);
        dueBox("promise 2, BELOW wide first", x, 0, 1, 7, 5);
        // Line ends of both, and one more.
        x = built(T, 7, T, 5, BELOW, 0, T, 9, T, 3, BELOW, 0, BELOW, 0);
        dueBox("promise 2, BELOW twice", x, 0, 3, 9, 3);
    }

    private static void tokenEither() {
        // (0, 12, 12) or (1, 7, 7)
        LayoutChoice x = built(T, 5, T, 7, BESIDE, 0, T, 5, T, 7, BELOW, 0);
        due("promise 2, EITHER", x.token(EITHER, 0), 1);
        due("promise 2, EITHER", x.best(0), 2);
        due("promise 2, EITHER, flat", x.width(0, 0), 12);
        due("promise 2, EITHER, high", x.width(0, 1), 7);
        // Every box of the first with every box of the second.
        take(x, T, 3, T, 1, T, 1, BELOW, 0, EITHER, 0, BESIDE, 0);
        due("promise 2, product, 0 line ends", x.width(0, 0), 15);
        due("promise 2, product, 1 line end", x.width(0, 1), 10);
        due("promise 2, product, 2 line ends", x.width(0, 2), 8);
        due("promise 2, product, last", x.last(0, 1, 12), 10);
        due("promise 2, product, last flat", x.last(0, 0, 15), 15);
        due("promise 2, product, last one line end wide", x.last(0, 1, 13), 10);
        due("promise 2, n is not looked at", built(T, 1, T, 2, EITHER, MIN).width(0, 0), 1);
        due("promise 2, n is not looked at", built(T, 1, T, 2, BESIDE, MAX).width(0, 0), 3);
        due("promise 2, n is not looked at", built(T, 1, T, 2, BELOW, -1).width(0, 1), 2);
    }

    private static void tokenWrongCodes() {
        for (int code : new int[] {-1, 5, 6, MIN, MAX}) {
            LayoutChoice x = built(T, 4, T, 6);
            due("promise 2, code " + code, x.token(code, 0), -1);
            dueBox("promise 2, code " + code, x, 0, 0, 6, 6);
            dueBox("promise 2, code " + code, x, 1, 0, 4, 4);
        }
    }

    private static void tokenStackFull() {
        LayoutChoice x = new LayoutChoice();
        for (int i = 1; i <= 10; i++) {
            due("promise 2, document " + i, x.token(T, i), i);
        }
        due("promise 2, eleventh", x.token(T, 11), -1);
        for (int k = 0; k < 10; k++) {
            dueBox("promise 2, full stack " + k, x, k, 0, 10 - k, 10 - k);
        }
        due("promise 2, INDENT on a full stack", x.token(INDENT, 2), 10);
        dueBox("promise 2, INDENT on a full stack", x, 0, 0, 12, 12);
        due("promise 2, BESIDE on a full stack", x.token(BESIDE, 0), 9);
        dueBox("promise 2, BESIDE on a full stack", x, 0, 0, 21, 21);
        dueBox("promise 2, below it", x, 1, 0, 8, 8);
        due("promise 2, room again", x.token(T, 40), 10);
        due("promise 2, BELOW on a full stack", x.token(BELOW, 0), 9);
        dueBox("promise 2, BELOW on a full stack", x, 0, 1, 40, 40);
    }

    private static void tokenTooFew() {
        for (int code : new int[] {BESIDE, BELOW, EITHER}) {
            due("promise 2, none for " + code, new LayoutChoice().token(code, 0), -1);
            LayoutChoice x = built(T, 6);
            due("promise 2, one for " + code, x.token(code, 0), -1);
            dueBox("promise 2, one for " + code, x, 0, 0, 6, 6);
            due("promise 2, two for " + code, built(T, 6, T, 7).token(code, 0), 1);
        }
        due("promise 2, none for INDENT", new LayoutChoice().token(INDENT, 0), -1);
        due("promise 2, one for INDENT", built(T, 6).token(INDENT, 0), 1);
    }

    private static void tokenLimit() {
        LayoutChoice x = built(T, 1, T, 2);
        for (int i = 3; i <= 48; i++) {
            // Refused tokens are not taken, so they do not count.
            due("promise 2, refused before token " + i, x.token(INDENT, 21), -1);
            due("promise 2, token " + i, x.token(INDENT, 20), 2);
        }
        for (int code = 0; code <= 4; code++) {
            due("promise 2, token 49 of code " + code, x.token(code, 1), -1);
        }
        dueBox("promise 2, after 48 tokens", x, 0, 0, 922, 922);
        dueBox("promise 2, after 48 tokens", x, 1, 0, 1, 1);
        x.clear();
        for (int i = 1; i <= 48; i++) {
            due("promise 3, token " + i + " after clear", x.token(i == 1 ? T : INDENT, 1), 1);
        }
        due("promise 3, token 49 after clear", x.token(INDENT, 1), -1);
    }

    private static void tokenEitherLimit() {
        LayoutChoice x = new LayoutChoice();
        for (int round = 0; round < 2; round++) {
            due("promise 2, refused EITHER", x.token(EITHER, 0), -1);
            take(x, T, 9);
            due("promise 2, refused EITHER", x.token(EITHER, 0), -1);
            for (int i = 1; i <= 6; i++) {
                take(x, T, 9 - i);
                due("promise 2, EITHER " + i, x.token(EITHER, 0), 1);
            }
            take(x, T, 1);
            due("promise 2, EITHER 7", x.token(EITHER, 0), -1);
            dueBox("promise 2, EITHER 7", x, 0, 0, 1, 1);
            dueBox("promise 2, EITHER 7", x, 1, 0, 3, 3);
            due("promise 2, BESIDE after six EITHER", x.token(BESIDE, 0), 1);
            dueBox("promise 2, BESIDE after six EITHER", x, 0, 0, 4, 4);
            // Only clear gives EITHER tokens back.
            take(x, T, 2);
            due("promise 2, EITHER 8", x.token(EITHER, 0), -1);
            x.clear();
        }
    }

    private static void mostBoxes() {
        // Six choices of n or a line end: 64 different boxes, with every sum of the powers of two.
        LayoutChoice x = new LayoutChoice();
        for (int i = 0; i < 6; i++) {
            take(x, T, 1 << i, T, 0, T, 0, BELOW, 0, EITHER, 0);
            if (i > 0) {
                take(x, BESIDE, 0);
            }
        }
        int[] least = {63, 31, 15, 7, 3, 1, 0};
        for (int ends = 0; ends <= 6; ends++) {
            due("64 boxes, last " + ends, x.last(0, ends, MAX), least[ends]);
            due("64 boxes, lines", x.lines(0, ends == 6 ? 0 : 63), ends == 6 ? 6 : 0);
        }
        // The 64 boxes stay what they are at the bottom of a full stack.
        for (int i = 0; i < 9; i++) {
            take(x, T, i);
        }
        dueBox("64 boxes, the one on them", x, 8, 0, 0, 0);
        due("64 boxes, at the bottom", x.last(9, 5, MAX), 1);
        take(x, BESIDE, 0);
        dueBox("64 boxes, others", x, 0, 0, 15, 15);
        due("64 boxes, at the bottom", x.last(8, 6, MAX), 0);
    }

    private static void clear() {
        LayoutChoice x = new LayoutChoice();
        x.clear();
        dueEmpty("promise 3, clear of nothing", x);
        take(x, T, 5, T, 7, T, 1, EITHER, 0);
        x.clear();
        dueEmpty("promise 3, clear", x);
        due("promise 3, BESIDE after clear", x.token(BESIDE, 0), -1);
        due("promise 3, TEXT after clear", x.token(T, 9), 1);
        dueBox("promise 3, nothing of before", x, 0, 0, 9, 9);
    }

    /** The boxes (0, 25, 25), (1, 14, 9), (2, 9, 3) and (2, 9, 9). */
    private static LayoutChoice three() {
        return built(T, 25, T, 14, T, 9, BELOW, 0, EITHER, 0,
                T, 9, T, 9, BELOW, 0, T, 0, BELOW, 0, T, 3, BESIDE, 0,
                T, 9, T, 9, BELOW, 0, T, 9, BELOW, 0, EITHER, 0, EITHER, 0);
    }

    private static void lines() {
        LayoutChoice x = three();
        due("promise 4, 26", x.lines(0, 26), 0);
        due("promise 4, 25", x.lines(0, 25), 0);
        due("promise 4, 24", x.lines(0, 24), 1);
        due("promise 4, 14", x.lines(0, 14), 1);
        due("promise 4, 13", x.lines(0, 13), 2);
        due("promise 4, 9", x.lines(0, 9), 2);
        due("promise 4, 8", x.lines(0, 8), -1);
        due("promise 4, 0", x.lines(0, 0), -1);
        due("promise 4, -1", x.lines(0, -1), -1);
        due("promise 4, least", x.lines(0, MIN), -1);
        due("promise 4, greatest", x.lines(0, MAX), 0);
        due("promise 4, width 0", built(T, 0).lines(0, 0), 0);
        due("promise 4, width 0 in -1", built(T, 0).lines(0, -1), -1);
    }

    private static void width() {
        LayoutChoice x = three();
        due("promise 5, -1", x.width(0, -1), -1);
        due("promise 5, least", x.width(0, MIN), -1);
        due("promise 5, 0", x.width(0, 0), 25);
        due("promise 5, 1", x.width(0, 1), 14);
        due("promise 5, 2", x.width(0, 2), 9);
        due("promise 5, 3", x.width(0, 3), 9);
        due("promise 5, greatest", x.width(0, MAX), 9);
        due("promise 5, none so flat", built(T, 3, T, 3, BELOW, 0).width(0, 0), -1);
        due("promise 5, width 0", built(T, 0).width(0, 0), 0);
    }

    private static void cost() {
        LayoutChoice x = three();
        due("promise 6, all over", x.cost(0, 1, 5), 18);
        due("promise 6, flat is cheapest", x.cost(0, 100, 24), 1);
        due("promise 6, middle", x.cost(0, 40, 13), 41);
        due("promise 6, high", x.cost(0, 10, 9), 20);
        due("promise 6, room is enough", x.cost(0, 7, 25), 0);
        due("promise 6, room is more", x.cost(0, 7, 200), 0);
        due("promise 6, price 0", x.cost(0, 0, 0), 81);
        due("promise 6, price below", x.cost(0, -1, 0), 81);
        due("promise 6, least", x.cost(0, MIN, MIN), 81);
        due("promise 6, greatest", x.cost(0, MAX, MAX), 0);
        LayoutChoice high = built(T, 3, T, 3, BELOW, 0);
        due("promise 6, price 99", high.cost(0, 99, 3), 99);
        due("promise 6, price 100", high.cost(0, 100, 3), 100);
        due("promise 6, price 101", high.cost(0, 101, 3), 100);
        due("promise 6, price greatest", high.cost(0, MAX, 2), 101);
        due("promise 6, room -1", high.cost(0, 0, -1), 9);
        due("promise 6, room least", high.cost(0, 0, MIN), 9);
        LayoutChoice wide = built(T, 40);
        take(wide, INDENT, 20, INDENT, 20, INDENT, 20, INDENT, 20, INDENT, 20,
                INDENT, 20, INDENT, 20, INDENT, 20, INDENT, 10);
        due("promise 6, room 199", wide.cost(0, 0, 199), 121);
        due("promise 6, room 200", wide.cost(0, 0, 200), 100);
        due("promise 6, room 201", wide.cost(0, 0, 201), 100);
        due("promise 6, room greatest", wide.cost(0, 0, MAX), 100);
    }

    private static void best() {
        due("promise 7, (2, 9, 9) is beaten by (2, 9, 3)", three().best(0), 3);
        due("promise 7, the same box twice", built(T, 7, T, 7, EITHER, 0).best(0), 1);
        due("promise 7, a smaller one", built(T, 7, T, 6, EITHER, 0).best(0), 1);
        due("promise 7, a smaller one first", built(T, 6, T, 7, EITHER, 0).best(0), 1);
        // (0, 7, 7) and (1, 7, 6) differ in line ends and last, with one width.
        due("promise 7, last counts", built(T, 7, T, 7, T, 6, BELOW, 0, EITHER, 0).best(0), 2);
        // (0, 7, 7) and (1, 7, 7)
        due("promise 7, line ends count", built(T, 7, T, 7, T, 7, BELOW, 0, EITHER, 0).best(0), 1);
        // (1, 9, 4) and (1, 8, 5)
        due("promise 7, width against last",
                built(T, 9, T, 4, BELOW, 0, T, 8, T, 5, BELOW, 0, EITHER, 0).best(0), 2);
        // (1, 9, 4) and (1, 8, 4)
        due("promise 7, width alone",
                built(T, 9, T, 4, BELOW, 0, T, 8, T, 4, BELOW, 0, EITHER, 0).best(0), 1);
        // (0, 9, 9) and (1, 8, 8) and (2, 7, 7), each the best of its line ends, beside themselves.
        LayoutChoice x = built(T, 9, T, 8, T, 8, BELOW, 0, EITHER, 0, T, 7, T, 7, BELOW, 0, T, 7, BELOW, 0,
                EITHER, 0);
        due("promise 7, three", x.best(0), 3);
        take(x, T, 9, BELOW, 0);
        due("promise 7, three made one by what is below", x.best(0), 1);
        // The same box by two ways is one box: 1 + 2 and 2 + 1.
        due("promise 7, two ways to one box",
                built(T, 1, T, 2, EITHER, 0, T, 1, T, 2, EITHER, 0, BESIDE, 0).best(0), 1);
        // Choices of 1 or a line end, twice: (0, 2, 2), (1, 1, 1) by two ways, (2, 0, 0).
        due("promise 7, two ways to a best box",
                built(T, 1, T, 0, T, 0, BELOW, 0, EITHER, 0,
                        T, 1, T, 0, T, 0, BELOW, 0, EITHER, 0, BESIDE, 0).best(0), 3);
    }

    private static void last() {
        LayoutChoice x = three();
        due("promise 8, all", x.last(0, 2, 25), 3);
        due("promise 8, at most 1", x.last(0, 1, 25), 9);
        due("promise 8, at most 0", x.last(0, 0, 25), 25);
        due("promise 8, too narrow for 0", x.last(0, 0, 24), -1);
        due("promise 8, at most 1 in 14", x.last(0, 1, 14), 9);
        due("promise 8, at most 1 in 13", x.last(0, 1, 13), -1);
        due("promise 8, at most 2 in 9", x.last(0, 2, 9), 3);
        due("promise 8, at most 2 in 8", x.last(0, 2, 8), -1);
        due("promise 8, -1 lines", x.last(0, -1, MAX), -1);
        due("promise 8, -1 wide", x.last(0, MAX, -1), -1);
        due("promise 8, least", x.last(0, MIN, MIN), -1);
        due("promise 8, greatest", x.last(0, MAX, MAX), 3);
        due("promise 8, last 0", built(T, 4, T, 0, BELOW, 0).last(0, 1, 4), 0);
    }

    private static void documentNumbers() {
        LayoutChoice x = built(T, 3, T, 5, T, 5, BELOW, 0, T, 7);
        dueBox("number 0 is the top", x, 0, 0, 7, 7);
        dueBox("number 1", x, 1, 1, 5, 5);
        dueBox("number 2 is the bottom", x, 2, 0, 3, 3);
        due("cost of number 1", x.cost(1, 10, 4), 11);
        for (int k : new int[] {-1, 3, 4, 9, 10, 11, MIN, MAX}) {
            due("promise 4, number " + k, x.lines(k, 100), -1);
            due("promise 5, number " + k, x.width(k, 100), -1);
            due("promise 6, number " + k, x.cost(k, 1, 1), -1);
            due("promise 7, number " + k, x.best(k), -1);
            due("promise 8, number " + k, x.last(k, 100, 100), -1);
        }
    }

    private static void refusedChangesNothing() {
        LayoutChoice x = three();
        int[] refused = {T, -1, T, 41, INDENT, -1, INDENT, 21, BESIDE, 0, BELOW, 0, EITHER, 0, 5, 0, -1, 0};
        for (int i = 0; i < refused.length; i += 2) {
            due("promise 9, token " + refused[i] + " " + refused[i + 1], x.token(refused[i], refused[i + 1]), -1);
        }
        due("promise 9, lines", x.lines(7, 1), -1);
        due("promise 9, width", x.width(-1, 1), -1);
        due("promise 9, cost", x.cost(1, 1, 1), -1);
        due("promise 9, best", x.best(1), -1);
        due("promise 9, last", x.last(1, 1, 1), -1);
        due("promise 9, best after them", x.best(0), 3);
        due("promise 9, lines after them", x.lines(0, 13), 2);
        due("promise 9, width after them", x.width(0, 1), 14);
        due("promise 9, cost after them", x.cost(0, 40, 13), 41);
        due("promise 9, last after them", x.last(0, 1, 14), 9);
        due("promise 9, documents after them", x.token(T, 1), 2);
    }

    private static void objectsApart() {
        LayoutChoice x = built(T, 3);
        LayoutChoice y = built(T, 8, T, 9);
        dueBox("one object", x, 0, 0, 3, 3);
        x.clear();
        dueBox("another object", y, 1, 0, 8, 8);
    }
}
