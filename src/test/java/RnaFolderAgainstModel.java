import java.util.ArrayList;
import java.util.Arrays;
import java.util.List;

/** Long mixed runs, each answer held against a model that follows the document's terms word by word. */
public final class RnaFolderAgainstModel {
    private static final int RUNS = 400;
    private static final int CALLS = 120;

    private static long seed = 20261115L;
    private static int wrong = 0;

    /** A set of pairs, with its score and code. */
    private record Fold(List<int[]> pairs, int score, int code) {
        boolean has(int i, int j) {
            return pairs.stream().anyMatch(p -> p[0] == i && p[1] == j);
        }
    }

    private static final class Model {
        final int gap;
        final List<Integer> bases = new ArrayList<>();
        final List<Integer> holds = new ArrayList<>();
        final int[] numbers = {3, 5, 1, 2, 2, 3};
        List<Fold> every = null;

        Model(int gap) {
            this.gap = Math.max(0, Math.min(4, gap));
        }

        boolean good(int place) {
            return 0 <= place && place < bases.size();
        }

        int kind(int i, int j) {
            int both = 1 << bases.get(i) | 1 << bases.get(j);
            return both == 0b1001 ? 0 : both == 0b0110 ? 1 : both == 0b1100 ? 2 : -1;
        }

        boolean fit(int i, int j) {
            return i < j && j - i > gap && kind(i, j) >= 0;
        }

        List<Fold> every() {
            if (every == null) {
                List<int[]> fitting = new ArrayList<>();
                for (int i = 0; i < bases.size(); i++) {
                    for (int j = 0; j < bases.size(); j++) {
                        if (fit(i, j)) {
                            fitting.add(new int[] {i, j});
                        }
                    }
                }
                every = new ArrayList<>();
                collect(fitting, 0, new ArrayList<>());
            }
            return every;
        }

        void collect(List<int[]> fitting, int from, List<int[]> chosen) {
            if (from == fitting.size()) {
                List<int[]> pairs = new ArrayList<>(chosen);
                every.add(new Fold(pairs, score(pairs), code(pairs)));
                return;
            }
            collect(fitting, from + 1, chosen);
            int[] p = fitting.get(from);
            if (chosen.stream().noneMatch(q -> shares(p, q) || crosses(p, q) || crosses(q, p))) {
                chosen.add(p);
                collect(fitting, from + 1, chosen);
                chosen.remove(chosen.size() - 1);
            }
        }

        static boolean shares(int[] p, int[] q) {
            return p[0] == q[0] || p[0] == q[1] || p[1] == q[0] || p[1] == q[1];
        }

        static boolean crosses(int[] p, int[] q) {
            return p[0] < q[0] && q[0] < p[1] && p[1] < q[1];
        }

        static boolean within(int[] inner, int[] outer) {
            return outer[0] < inner[0] && inner[1] < outer[1];
        }

        int score(List<int[]> pairs) {
            int sum = 0;
            for (int[] p : pairs) {
                List<int[]> direct = pairs.stream()
                        .filter(q -> within(q, p) && pairs.stream().noneMatch(r -> within(q, r) && within(r, p)))
                        .toList();
                sum += numbers[kind(p[0], p[1])];
                if (direct.size() >= 2) {
                    sum -= numbers[5];
                } else if (direct.size() == 1) {
                    int[] q = direct.get(0);
                    sum += q[0] == p[0] + 1 && q[1] == p[1] - 1 ? numbers[3] : -numbers[4];
                }
            }
            return sum;
        }

        int code(List<int[]> pairs) {
            int[] digits = new int[bases.size()];
            for (int[] p : pairs) {
                digits[p[0]] = 1;
                digits[p[1]] = 2;
            }
            return Arrays.stream(digits).reduce(0, (code, digit) -> 3 * code + digit);
        }

        boolean allowed(Fold fold) {
            for (int place = 0; place < bases.size(); place++) {
                int at = place;
                boolean first = fold.pairs().stream().anyMatch(p -> p[0] == at);
                boolean second = fold.pairs().stream().anyMatch(p -> p[1] == at);
                boolean asHeld = switch (holds.get(place)) {
                    case 1 -> !first && !second;
                    case 2 -> first;
                    case 3 -> second;
                    default -> true;
                };
                if (!asHeld) {
                    return false;
                }
            }
            return true;
        }

        List<Fold> allowed() {
            return every().stream().filter(this::allowed).toList();
        }

        List<Fold> allowedWith(int i, int j) {
            return allowed().stream().filter(f -> f.has(i, j)).toList();
        }

        static int greatest(List<Fold> folds) {
            return folds.stream().mapToInt(Fold::score).max().orElse(-1000);
        }

        int bestCode() {
            int best = greatest(allowed());
            return allowed().stream().filter(f -> f.score() == best).mapToInt(Fold::code).min().orElse(-1);
        }

        int push(int base) {
            if (base < 0 || base > 3) {
                return -1;
            }
            if (bases.size() == 11) {
                return -2;
            }
            bases.add(base);
            holds.add(0);
            return bases.size();
        }

        int pop() {
            if (bases.isEmpty()) {
                return -1;
            }
            holds.remove(holds.size() - 1);
            return bases.remove(bases.size() - 1);
        }

        int change(List<Integer> list, int place, int value) {
            if (!good(place)) {
                return -1;
            }
            return value < 0 || value > 3 ? -2 : list.set(place, value);
        }

        int tune(int which, int value) {
            if (which < 0 || which > 5) {
                return -1;
            }
            if (value < 0 || value > 20) {
                return -2;
            }
            int before = numbers[which];
            numbers[which] = value;
            return before;
        }

        int partner(int place) {
            if (!good(place)) {
                return -1;
            }
            int code = bestCode();
            for (Fold fold : allowed()) {
                for (int[] p : fold.pairs()) {
                    if (fold.code() == code && (p[0] == place || p[1] == place)) {
                        return p[0] + p[1] - place;
                    }
                }
            }
            return -2;
        }

        int scoreOf(int code) {
            return every().stream().filter(f -> f.code() == code).mapToInt(Fold::score).findFirst().orElse(-1000);
        }
    }

    public static void main(String[] args) {
        for (int run = 0; run < RUNS && wrong < 20; run++) {
            run(run);
        }
        System.out.println(wrong == 0 ? "all answers are as due" : wrong + " answers are not as due");
        if (wrong != 0) {
            System.exit(1);
        }
    }

    /** A number from low to high, from a fixed row of numbers so that every run is the same. */
    private static int pick(int low, int high) {
        seed = seed * 6364136223846793005L + 1442695040888963407L;
        return low + (int) ((seed >>> 33) % (high - low + 1));
    }

    private static void run(int run) {
        int gap = pick(-1, 5);
        RnaFolder x = new RnaFolder(gap);
        Model m = new Model(gap);
        List<String> told = new ArrayList<>(List.of("new RnaFolder(" + gap + ")"));
        int start = pick(0, 11);
        for (int n = 0; n < start; n++) {
            int base = pick(0, 3);
            told.add("push(" + base + ")");
            x.push(base);
            m.push(base);
        }
        for (int n = 0; n < CALLS; n++) {
            if (!changeAgrees(x, m, told) || !questionAgrees(x, m, told)) {
                return;
            }
        }
    }

    private static int pickPlace(Model m) {
        return pick(0, 19) == 0 ? pick(-2, 12) : pick(0, Math.max(0, m.bases.size() - 1));
    }

    private static boolean changeAgrees(RnaFolder x, Model m, List<String> told) {
        int what = pick(0, 9);
        int place = pickPlace(m);
        int small = pick(0, 9) == 0 ? pick(-1, 4) : pick(0, 3);
        int which = pick(-1, 6);
        int value = pick(-1, 21);
        // Holds are loosened more often than set, for else most rows would soon have no allowed fold.
        int how = pick(0, 2) > 0 && small > 0 && small < 4 ? 0 : small;
        m.every = null;
        return switch (what) {
            case 0, 1, 2 -> same(told, "push(" + small + ")", x.push(small), m.push(small));
            case 3 -> same(told, "pop()", x.pop(), m.pop());
            case 4, 5 -> same(told, "set(" + place + ", " + small + ")",
                    x.set(place, small), m.change(m.bases, place, small));
            case 6, 7 -> same(told, "hold(" + place + ", " + how + ")",
                    x.hold(place, how), m.change(m.holds, place, how));
            default -> same(told, "tune(" + which + ", " + value + ")", x.tune(which, value), m.tune(which, value));
        };
    }

    private static boolean questionAgrees(RnaFolder x, Model m, List<String> told) {
        int what = pick(0, 9);
        int i = pickPlace(m);
        int j = pickPlace(m);
        boolean good = m.good(i) && m.good(j);
        String places = "(" + i + ", " + j + ")";
        return switch (what) {
            case 0 -> same(told, "length()", x.length(), m.bases.size());
            case 1 -> same(told, "fits" + places, x.fits(i, j), !good ? -1 : m.fit(i, j) ? 1 : 0);
            case 2 -> same(told, "folds()", x.folds(), m.allowed().size());
            case 3 -> same(told, "best()", x.best(), Model.greatest(m.allowed()));
            case 4 -> {
                int best = Model.greatest(m.allowed());
                int count = (int) m.allowed().stream().filter(f -> f.score() == best).count();
                yield same(told, "bestFolds()", x.bestFolds(), count);
            }
            case 5 -> same(told, "bestCode()", x.bestCode(), m.bestCode());
            case 6 -> same(told, "partner(" + i + ")", x.partner(i), m.partner(i));
            case 7 -> same(told, "bestWith" + places,
                    x.bestWith(i, j), !good ? -2000 : Model.greatest(m.allowedWith(i, j)));
            case 8 -> same(told, "foldsWith" + places, x.foldsWith(i, j), !good ? -1 : m.allowedWith(i, j).size());
            default -> {
                List<Fold> every = m.every();
                int code = pick(0, 2) == 0 ? pick(-1, 177150) : every.get(pick(0, every.size() - 1)).code();
                yield same(told, "scoreOf(" + code + ")", x.scoreOf(code), m.scoreOf(code));
            }
        };
    }

    private static boolean same(List<String> told, String call, int got, int want) {
        told.add(call);
        if (got == want) {
            return true;
        }
        wrong++;
        System.out.println(String.join(" ", told) + " answered " + got + ", due is " + want);
        return false;
    }
}
