import java.util.ArrayList;
import java.util.HashSet;
import java.util.List;
import java.util.Set;

/** Long runs of calls, answered also by a second reading of the document over sets of boxes. */
public final class LayoutChoiceAgainstModel {
    private static final int RUNS = 4000;
    private static final int CALLS = 512;

    private record Box(int ends, int width, int last) {
        boolean noWorseThan(Box other) {
            return ends <= other.ends && width <= other.width && last <= other.last;
        }
    }

    private static final class Model {
        private final List<Set<Box>> stack = new ArrayList<>();
        private int tokens = 0;
        private int eithers = 0;

        int token(int code, int n) {
            boolean known = code >= 0 && code <= 4;
            boolean inRange = code == 0 ? n >= 0 && n <= 40 : code != 3 || n >= 0 && n <= 20;
            int needed = code == 0 ? 0 : code == 3 ? 1 : 2;
            boolean noRoom = code == 0 && stack.size() == 10;
            if (!known || !inRange || stack.size() < needed || noRoom || tokens == 48 || code == 4 && eithers == 6) {
                return -1;
            }
            Set<Box> made = new HashSet<>();
            Set<Box> second = needed > 0 ? stack.remove(stack.size() - 1) : Set.of();
            Set<Box> first = needed > 1 ? stack.remove(stack.size() - 1) : Set.of();
            if (code == 0) {
                made.add(new Box(0, n, n));
            } else if (code == 3) {
                second.forEach(b -> made.add(new Box(b.ends, b.width + n, b.last + n)));
            } else if (code == 4) {
                made.addAll(first);
                made.addAll(second);
                eithers++;
            } else {
                first.forEach(a -> second.forEach(b -> made.add(code == 1
                        ? new Box(a.ends + b.ends, Math.max(a.width, a.last + b.width), a.last + b.last)
                        : new Box(a.ends + b.ends + 1, Math.max(a.width, b.width), b.last))));
            }
            stack.add(made);
            tokens++;
            return stack.size();
        }

        void clear() {
            stack.clear();
            tokens = 0;
            eithers = 0;
        }

        private Set<Box> document(int k) {
            return k < 0 || k >= stack.size() ? Set.of() : stack.get(stack.size() - 1 - k);
        }

        int lines(int k, int width) {
            return document(k).stream().filter(b -> b.width <= width).mapToInt(Box::ends).min().orElse(-1);
        }

        int width(int k, int lines) {
            return document(k).stream().filter(b -> b.ends <= lines).mapToInt(Box::width).min().orElse(-1);
        }

        int cost(int k, int price, int room) {
            int p = Math.max(0, Math.min(100, price));
            int r = Math.max(0, Math.min(200, room));
            return document(k).stream().mapToInt(b -> {
                int over = Math.max(0, b.width - r);
                return p * b.ends + over * over;
            }).min().orElse(-1);
        }

        int best(int k) {
            Set<Box> all = document(k);
            int count = (int) all.stream()
                    .filter(b -> all.stream().noneMatch(o -> !o.equals(b) && o.noWorseThan(b))).count();
            return all.isEmpty() ? -1 : count;
        }

        int last(int k, int lines, int width) {
            return document(k).stream().filter(b -> b.ends <= lines && b.width <= width)
                    .mapToInt(Box::last).min().orElse(-1);
        }
    }

    private static int wrong = 0;
    private static int largest = 0;
    private static int mostBest = 0;
    private static long state = 1;

    public static void main(String[] args) {
        for (int run = 0; run < RUNS; run++) {
            runOnce(run);
        }
        // The runs are of use only if they come near the greatest documents.
        if (largest < 60 || mostBest < 8) {
            wrong++;
            System.out.println("the runs are too tame: " + largest + " boxes, " + mostBest + " best");
        }
        System.out.println(wrong == 0 ? "all answers are as due" : wrong + " answers are not as due");
        if (wrong != 0) {
            System.exit(1);
        }
    }

    /** The same numbers in every run of the test: a fixed sequence, not a random source. */
    private static int pick(int below) {
        state = state * 6364136223846793005L + 1442695040888963407L;
        return (int) ((state >>> 33) % below);
    }

    private static void runOnce(int run) {
        LayoutChoice x = new LayoutChoice();
        Model model = new Model();
        int widest = run % 2 == 0 ? 6 : 40;
        int call = run % 4 < 2 ? 0 : manyChoices(run, x, model, widest);
        for (; call < CALLS; call++) {
            int kind = pick(100);
            if (kind == 0) {
                x.clear();
                model.clear();
            } else if (kind < 30) {
                int code = pickCode(model);
                int n = pick(20) == 0 ? pick(100) - 30 : pick(widest + 1);
                due(run, call, "token(" + code + ", " + n + ")", x.token(code, n), model.token(code, n));
            } else {
                ask(run, call, x, model);
            }
        }
    }

    /** Six choices put together, as documents of many boxes seldom come by chance; answers the calls made. */
    private static int manyChoices(int run, LayoutChoice x, Model model, int widest) {
        int call = 0;
        for (int choice = 0; choice < 6; choice++) {
            int[] codes = {0, 0, 0, 1 + pick(2), 4, pick(3) == 0 ? 3 : 1 + pick(2), 1 + pick(2)};
            for (int code : codes) {
                int n = pick(widest + 1);
                due(run, call++, "token(" + code + ", " + n + ")", x.token(code, n), model.token(code, n));
            }
            for (int question = 0; question < 20; question++) {
                ask(run, call++, x, model);
            }
        }
        return call;
    }

    private static int pickCode(Model model) {
        int kind = pick(40);
        if (kind == 0) {
            return pick(20) - 8;
        }
        if (kind < 4) {
            return 3;
        }
        boolean choose = model.eithers < 6 && pick(3) == 0;
        return kind < 23 ? 0 : choose ? 4 : 1 + pick(2);
    }

    private static void ask(int run, int call, LayoutChoice x, Model model) {
        int k = pick(10) == 0 ? pick(14) - 2 : pick(model.stack.size() + 1);
        int ends = pick(14) - 1;
        int wide = pick(10) == 0 ? pick(1000) - 20 : pick(80);
        largest = Math.max(largest, model.document(k).size());
        switch (pick(5)) {
            case 0 -> due(run, call, "lines(" + k + ", " + wide + ")", x.lines(k, wide), model.lines(k, wide));
            case 1 -> due(run, call, "width(" + k + ", " + ends + ")", x.width(k, ends), model.width(k, ends));
            case 2 -> {
                int price = pick(140) - 20;
                due(run, call, "cost(" + k + ", " + price + ", " + wide + ")",
                        x.cost(k, price, wide), model.cost(k, price, wide));
            }
            case 3 -> {
                int want = model.best(k);
                mostBest = Math.max(mostBest, want);
                due(run, call, "best(" + k + ")", x.best(k), want);
            }
            default -> due(run, call, "last(" + k + ", " + ends + ", " + wide + ")",
                    x.last(k, ends, wide), model.last(k, ends, wide));
        }
    }

    private static void due(int run, int call, String what, int got, int want) {
        if (got != want) {
            wrong++;
            if (wrong <= 20) {
                System.out.println("run " + run + ", call " + call + ": " + what + " answered " + got
                        + ", due is " + want);
            }
        }
    }
}
