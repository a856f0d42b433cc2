/** Each promise by hand: ordinary inputs, the edges that the document names, and wrong inputs. */
public final class RnaFolderPromises {
    private static final int LOW = Integer.MIN_VALUE;
    private static final int HIGH = Integer.MAX_VALUE;

    private static int wrong = 0;

    public static void main(String[] args) {
        newObject();
        push();
        pop();
        set();
        hold();
        tune();
        length();
        fits();
        folds();
        best();
        bestFolds();
        bestCode();
        partner();
        bestWith();
        foldsWith();
        scoreOf();
        scoreTerms();
        questionsChangeNothing();
        fullUse();
        System.out.println(wrong == 0 ? "all answers are as due" : wrong + " answers are not as due");
        if (wrong != 0) {
            System.exit(1);
        }
    }

    private static void due(String call, int got, int want) {
        if (got != want) {
            wrong++;
            System.out.println(call + " answered " + got + ", due is " + want);
        }
    }

    private static RnaFolder row(int gap, int... bases) {
        RnaFolder x = new RnaFolder(gap);
        for (int base : bases) {
            x.push(base);
        }
        return x;
    }

    private static void newObject() {
        int[] gaps = {LOW, -1, 0, 1, 2, 3, 4, 5, HIGH};
        int[] kept = {0, 0, 0, 1, 2, 3, 4, 4, 4};
        for (int n = 0; n < gaps.length; n++) {
            RnaFolder x = row(gaps[n], 0, 3, 3, 3, 3, 3, 3);
            for (int j = 1; j < 7; j++) {
                due("1: gap " + gaps[n] + " fits(0, " + j + ")", x.fits(0, j), j > kept[n] ? 1 : 0);
            }
        }
        RnaFolder x = new RnaFolder(0);
        due("1: length()", x.length(), 0);
        due("1: folds() of the empty row", x.folds(), 1);
        int[] numbers = {3, 5, 1, 2, 2, 3};
        for (int which = 0; which < 6; which++) {
            due("1: first tune(" + which + ", 0)", x.tune(which, 0), numbers[which]);
        }
    }

    private static void push() {
        RnaFolder x = new RnaFolder(0);
        for (int n = 1; n <= 11; n++) {
            due("2: push(4)", x.push(4), -1);
            due("2: push(-1)", x.push(-1), -1);
            due("2: push()", x.push(n % 4), n);
        }
        due("2: push(0) on a full row", x.push(0), -2);
        due("2: push(3) on a full row", x.push(3), -2);
        due("2: push(4) on a full row", x.push(4), -1);
        due("2: push(LOW) on a full row", x.push(LOW), -1);
        due("2: push(HIGH) on a full row", x.push(HIGH), -1);
        due("2: length()", x.length(), 11);
        for (int n = 11; n >= 1; n--) {
            due("2: pop() after refusals", x.pop(), n % 4);
        }
        RnaFolder y = row(0, 0, 3);
        y.hold(1, 1);
        y.pop();
        y.push(3);
        due("2: a base pushed anew is not held", y.hold(1, 0), 0);
        y.hold(1, 1);
        y.pop();
        y.push(3);
        due("2: folds() with a base pushed anew", y.folds(), 2);
    }

    private static void pop() {
        RnaFolder x = new RnaFolder(0);
        due("3: pop() of the empty row", x.pop(), -1);
        due("3: length() after a refused pop", x.length(), 0);
        due("3: push after a refused pop", x.push(2), 1);
        x.push(0);
        due("3: pop()", x.pop(), 0);
        due("3: length()", x.length(), 1);
        due("3: pop()", x.pop(), 2);
        due("3: length()", x.length(), 0);
        due("3: pop() when all is gone", x.pop(), -1);
        RnaFolder y = row(0, 1, 0, 3);
        y.hold(0, 2);
        y.pop();
        due("3: a hold that stays", y.hold(0, 2), 2);
        due("3: folds() after pop", y.folds(), 0);
    }

    private static void set() {
        RnaFolder x = row(0, 0, 1, 2);
        due("4: set(-1, 0)", x.set(-1, 0), -1);
        due("4: set(3, 0)", x.set(3, 0), -1);
        due("4: set(3, 9)", x.set(3, 9), -1);
        due("4: set(LOW, 0)", x.set(LOW, 0), -1);
        due("4: set(HIGH, 0)", x.set(HIGH, 0), -1);
        due("4: set(0, -1)", x.set(0, -1), -2);
        due("4: set(2, 4)", x.set(2, 4), -2);
        due("4: set(0, 3)", x.set(0, 3), 0);
        due("4: set(0, 0)", x.set(0, 0), 3);
        due("4: set(2, 0)", x.set(2, 0), 2);
        due("4: fits after set", x.fits(1, 2), 0);
        x.hold(1, 3);
        due("4: set of a held place", x.set(1, 3), 1);
        due("4: set leaves the hold", x.hold(1, 0), 3);
        due("4: length()", x.length(), 3);
        due("4: pop()", x.pop(), 0);
        due("4: set of a place that is gone", x.set(2, 0), -1);
        due("4: set(0, 0) of the empty row", new RnaFolder(0).set(0, 0), -1);
    }

    private static void hold() {
        RnaFolder x = row(0, 0, 3, 0);
        due("5: hold(-1, 0)", x.hold(-1, 0), -1);
        due("5: hold(3, 0)", x.hold(3, 0), -1);
        due("5: hold(3, 9)", x.hold(3, 9), -1);
        due("5: hold(LOW, 0)", x.hold(LOW, 0), -1);
        due("5: hold(HIGH, 0)", x.hold(HIGH, 0), -1);
        due("5: hold(0, -1)", x.hold(0, -1), -2);
        due("5: hold(0, 4)", x.hold(0, 4), -2);
        due("5: folds() when free", x.folds(), 3);
        due("5: hold(1, 1)", x.hold(1, 1), 0);
        due("5: folds() with 1 alone", x.folds(), 1);
        due("5: hold(1, 2)", x.hold(1, 2), 1);
        due("5: bestCode() with 1 first", x.bestCode(), 5);
        due("5: folds() with 1 first", x.folds(), 1);
        due("5: hold(1, 3)", x.hold(1, 3), 2);
        due("5: bestCode() with 1 second", x.bestCode(), 15);
        due("5: folds() with 1 second", x.folds(), 1);
        due("5: hold(1, 4)", x.hold(1, 4), -2);
        due("5: hold(1, 0)", x.hold(1, 0), 3);
        due("5: folds() when free again", x.folds(), 3);
        due("5: hold(0, 3)", x.hold(0, 3), 0);
        due("5: folds() with the first place second", x.folds(), 0);
        due("5: hold(2, 1) of another place", x.hold(2, 1), 0);
    }

    private static void tune() {
        RnaFolder x = new RnaFolder(0);
        due("6: tune(-1, 0)", x.tune(-1, 0), -1);
        due("6: tune(6, 0)", x.tune(6, 0), -1);
        due("6: tune(6, 21)", x.tune(6, 21), -1);
        due("6: tune(LOW, 0)", x.tune(LOW, 0), -1);
        due("6: tune(HIGH, 0)", x.tune(HIGH, 0), -1);
        int[] numbers = {3, 5, 1, 2, 2, 3};
        for (int which = 0; which < 6; which++) {
            due("6: tune(" + which + ", -1)", x.tune(which, -1), -2);
            due("6: tune(" + which + ", 21)", x.tune(which, 21), -2);
            due("6: tune(" + which + ", 20)", x.tune(which, 20), numbers[which]);
            due("6: tune(" + which + ", 0)", x.tune(which, 0), 20);
            due("6: tune(" + which + ", 7)", x.tune(which, 7), 0);
        }
        int[][] pairs = {{0, 3}, {2, 1}, {3, 2}};
        for (int kind = 0; kind < 3; kind++) {
            RnaFolder y = row(0, pairs[kind]);
            y.tune(kind, 11 + kind);
            due("6: best() with strength " + kind, y.best(), 11 + kind);
        }
        RnaFolder stacked = row(0, 1, 0, 3, 2);
        stacked.tune(3, 9);
        due("6: the stack bonus", stacked.scoreOf(44), 17);
        RnaFolder bulged = row(0, 1, 0, 0, 3, 2);
        bulged.tune(4, 9);
        due("6: the bulge cost", bulged.scoreOf(81 + 9 + 6 + 2), -1);
        RnaFolder branched = row(0, 1, 0, 3, 0, 3, 2);
        branched.tune(5, 9);
        due("6: the branch cost", branched.scoreOf(243 + 81 + 54 + 9 + 6 + 2), 2);
    }

    private static void length() {
        RnaFolder x = new RnaFolder(2);
        due("7: length() at first", x.length(), 0);
        for (int n = 1; n <= 11; n++) {
            x.push(0);
            due("7: length()", x.length(), n);
        }
        x.push(0);
        due("7: length() of a full row", x.length(), 11);
        for (int n = 10; n >= 0; n--) {
            x.pop();
            due("7: length()", x.length(), n);
        }
        x.pop();
        due("7: length() at last", x.length(), 0);
    }

    private static void fits() {
        int[][] table = {{0, 0, 0, 1}, {0, 0, 1, 0}, {0, 1, 0, 1}, {1, 0, 1, 0}};
        for (int a = 0; a < 4; a++) {
            for (int b = 0; b < 4; b++) {
                RnaFolder x = row(0, a, b);
                due("8: fits(0, 1) of " + a + " and " + b, x.fits(0, 1), table[a][b]);
                due("8: fits(1, 0) of " + a + " and " + b, x.fits(1, 0), 0);
                due("8: fits(0, 0) of " + a, x.fits(0, 0), 0);
            }
        }
        RnaFolder x = row(2, 0, 3, 3, 3);
        due("8: fits(0, 2) in the gap", x.fits(0, 2), 0);
        due("8: fits(0, 3) past the gap", x.fits(0, 3), 1);
        due("8: fits(3, 0)", x.fits(3, 0), 0);
        due("8: fits(0, 4)", x.fits(0, 4), -1);
        due("8: fits(4, 0)", x.fits(4, 0), -1);
        due("8: fits(-1, 3)", x.fits(-1, 3), -1);
        due("8: fits(3, -1)", x.fits(3, -1), -1);
        due("8: fits(LOW, HIGH)", x.fits(LOW, HIGH), -1);
        due("8: fits(HIGH, LOW)", x.fits(HIGH, LOW), -1);
        x.hold(0, 1);
        due("8: fits heeds no hold", x.fits(0, 3), 1);
        x.pop();
        due("8: fits of a place that is gone", x.fits(0, 3), -1);
        due("8: fits(0, 0) of the empty row", new RnaFolder(0).fits(0, 0), -1);
    }

    private static void folds() {
        due("9: folds() of the empty row", new RnaFolder(0).folds(), 1);
        due("9: folds() of one base", row(0, 3).folds(), 1);
        due("9: folds() of a pair", row(0, 0, 3).folds(), 2);
        due("9: folds() in the gap", row(1, 0, 3).folds(), 1);
        // None; (0 1) (0 3) (1 2) (2 3) alone; (0 1)(2 3); (0 3)(1 2).
        due("9: folds() of 0 3 0 3", row(0, 0, 3, 0, 3).folds(), 7);
        // None; (0 2) (1 3) (2 3) alone. (0 2) and (1 3) cross.
        due("9: folds() of a crossing", row(0, 0, 1, 3, 2).folds(), 4);
        due("9: folds() where nothing fits", row(0, 0, 0, 0, 0, 0, 0, 0, 0, 0, 0, 0).folds(), 1);
        RnaFolder x = row(0, 0, 3, 0, 3);
        x.hold(0, 2);
        due("9: folds() with the first place first", x.folds(), 4);
        x.hold(1, 3);
        due("9: folds() with (0, 1)", x.folds(), 2);
        x.hold(1, 2);
        due("9: folds() with 0 and 1 first", x.folds(), 1);
        x.hold(3, 2);
        due("9: folds() with the last place first", x.folds(), 0);
    }

    private static void best() {
        due("10: best() of the empty row", new RnaFolder(0).best(), 0);
        due("10: best() of one base", row(0, 2).best(), 0);
        due("10: best() of kind 0", row(0, 3, 0).best(), 3);
        due("10: best() of kind 1", row(0, 1, 2).best(), 5);
        due("10: best() of kind 2", row(0, 2, 3).best(), 1);
        due("10: best() of a stack", row(0, 1, 0, 3, 2).best(), 10);
        RnaFolder x = row(0, 1, 0, 0, 3, 2);
        x.tune(4, 20);
        x.hold(0, 2);
        x.hold(2, 2);
        due("10: best() below 0", x.best(), -12);
        x.hold(4, 1);
        due("10: best() of none", x.best(), -1000);
        x.hold(4, 0);
        due("10: best() below 0 again", x.best(), -12);
    }

    private static void bestFolds() {
        due("11: bestFolds() of the empty row", new RnaFolder(0).bestFolds(), 1);
        due("11: bestFolds() of a tie", row(0, 0, 3, 0).bestFolds(), 2);
        due("11: bestFolds() of a stack", row(0, 1, 0, 3, 2).bestFolds(), 1);
        due("11: bestFolds() of a tie in four", row(0, 0, 0, 3, 1).bestFolds(), 2);
        RnaFolder x = row(0, 0, 3, 0);
        x.tune(0, 0);
        due("11: bestFolds() of scores 0", x.bestFolds(), 3);
        x.hold(1, 2);
        due("11: bestFolds() with a hold", x.bestFolds(), 1);
        x.hold(2, 1);
        due("11: bestFolds() of none", x.bestFolds(), 0);
    }

    private static void bestCode() {
        due("12: bestCode() of the empty row", new RnaFolder(0).bestCode(), 0);
        due("12: bestCode() where nothing fits", row(0, 0, 1, 0).bestCode(), 0);
        due("12: bestCode() of a pair", row(0, 0, 3).bestCode(), 5);
        due("12: bestCode() of a tie", row(0, 0, 3, 0).bestCode(), 5);
        due("12: bestCode() of a stack", row(0, 1, 0, 3, 2).bestCode(), 44);
        RnaFolder x = row(0, 0, 3, 0);
        x.tune(0, 0);
        due("12: bestCode() of scores 0", x.bestCode(), 0);
        x.hold(0, 2);
        due("12: bestCode() with a hold", x.bestCode(), 15);
        x.hold(1, 1);
        due("12: bestCode() of none", x.bestCode(), -1);
    }

    private static void partner() {
        RnaFolder x = row(0, 0, 3, 0);
        due("13: partner(0)", x.partner(0), -2);
        due("13: partner(1)", x.partner(1), 2);
        due("13: partner(2)", x.partner(2), 1);
        due("13: partner(3)", x.partner(3), -1);
        due("13: partner(-1)", x.partner(-1), -1);
        due("13: partner(LOW)", x.partner(LOW), -1);
        due("13: partner(HIGH)", x.partner(HIGH), -1);
        x.hold(2, 1);
        due("13: partner(0) with a hold", x.partner(0), 1);
        due("13: partner(1) with a hold", x.partner(1), 0);
        due("13: partner(2) with a hold", x.partner(2), -2);
        x.hold(1, 2);
        due("13: partner(0) of none", x.partner(0), -2);
        due("13: partner(1) of none", x.partner(1), -2);
        due("13: partner(3) of none", x.partner(3), -1);
        due("13: partner(0) of the empty row", new RnaFolder(0).partner(0), -1);
        RnaFolder y = row(0, 1, 0, 3, 2);
        for (int place = 0; place < 4; place++) {
            due("13: partner(" + place + ") in a stack", y.partner(place), 3 - place);
        }
    }

    private static void bestWith() {
        RnaFolder x = row(0, 0, 3, 0, 3);
        due("14: bestWith(0, 1)", x.bestWith(0, 1), 6);
        due("14: bestWith(0, 3)", x.bestWith(0, 3), 8);
        due("14: bestWith(1, 2)", x.bestWith(1, 2), 8);
        due("14: bestWith(0, 2)", x.bestWith(0, 2), -1000);
        due("14: bestWith(1, 0)", x.bestWith(1, 0), -1000);
        due("14: bestWith(3, 0)", x.bestWith(3, 0), -1000);
        due("14: bestWith(1, 1)", x.bestWith(1, 1), -1000);
        due("14: bestWith(0, 4)", x.bestWith(0, 4), -2000);
        due("14: bestWith(4, 0)", x.bestWith(4, 0), -2000);
        due("14: bestWith(-1, -1)", x.bestWith(-1, -1), -2000);
        due("14: bestWith(-1, 0)", x.bestWith(-1, 0), -2000);
        due("14: bestWith(0, -1)", x.bestWith(0, -1), -2000);
        due("14: bestWith(LOW, HIGH)", x.bestWith(LOW, HIGH), -2000);
        x.hold(2, 1);
        due("14: bestWith(0, 1) with a hold", x.bestWith(0, 1), 3);
        due("14: bestWith(1, 2) with a hold", x.bestWith(1, 2), -1000);
        due("14: bestWith(0, 3) with a hold", x.bestWith(0, 3), 3);
        due("14: bestWith(0, 0) of the empty row", new RnaFolder(0).bestWith(0, 0), -2000);
    }

    private static void foldsWith() {
        RnaFolder x = row(0, 0, 3, 0, 3);
        due("15: foldsWith(0, 1)", x.foldsWith(0, 1), 2);
        due("15: foldsWith(0, 3)", x.foldsWith(0, 3), 2);
        due("15: foldsWith(1, 2)", x.foldsWith(1, 2), 2);
        due("15: foldsWith(2, 3)", x.foldsWith(2, 3), 2);
        due("15: foldsWith(0, 2)", x.foldsWith(0, 2), 0);
        due("15: foldsWith(1, 0)", x.foldsWith(1, 0), 0);
        due("15: foldsWith(2, 2)", x.foldsWith(2, 2), 0);
        due("15: foldsWith(0, 4)", x.foldsWith(0, 4), -1);
        due("15: foldsWith(4, 0)", x.foldsWith(4, 0), -1);
        due("15: foldsWith(-1, -1)", x.foldsWith(-1, -1), -1);
        due("15: foldsWith(-1, 0)", x.foldsWith(-1, 0), -1);
        due("15: foldsWith(0, -1)", x.foldsWith(0, -1), -1);
        due("15: foldsWith(HIGH, LOW)", x.foldsWith(HIGH, LOW), -1);
        x.hold(3, 1);
        due("15: foldsWith(0, 1) with a hold", x.foldsWith(0, 1), 1);
        due("15: foldsWith(0, 3) with a hold", x.foldsWith(0, 3), 0);
        due("15: foldsWith(0, 0) of the empty row", new RnaFolder(0).foldsWith(0, 0), -1);
    }

    private static void scoreOf() {
        RnaFolder empty = new RnaFolder(0);
        due("16: scoreOf(0) of the empty row", empty.scoreOf(0), 0);
        due("16: scoreOf(1) of the empty row", empty.scoreOf(1), -1000);
        due("16: scoreOf(-1) of the empty row", empty.scoreOf(-1), -1000);
        RnaFolder x = row(0, 0, 3);
        for (int code = -20; code < 100; code++) {
            due("16: scoreOf(" + code + ")", x.scoreOf(code), code == 0 ? 0 : code == 5 ? 3 : -1000);
        }
        due("16: scoreOf(LOW)", x.scoreOf(LOW), -1000);
        due("16: scoreOf(HIGH)", x.scoreOf(HIGH), -1000);
        x.hold(0, 1);
        due("16: scoreOf(5) that is not allowed", x.scoreOf(5), 3);
        x.hold(0, 2);
        due("16: scoreOf(0) that is not allowed", x.scoreOf(0), 0);
        due("16: scoreOf(5) in the gap", row(1, 0, 3).scoreOf(5), -1000);
        due("16: scoreOf(5) that does not fit", row(0, 0, 2).scoreOf(5), -1000);
        RnaFolder full = row(0, 0, 3, 3, 3, 3, 3, 3, 3, 3, 3, 0);
        due("16: scoreOf of the pair (9, 10)", full.scoreOf(5), 3);
        due("16: scoreOf of the pair (0, 1)", full.scoreOf(59049 + 2 * 19683), 3);
        due("16: scoreOf(177146)", full.scoreOf(177146), -1000);
        due("16: scoreOf(177147)", full.scoreOf(177147), -1000);
        due("16: scoreOf(177147 + 5)", full.scoreOf(177147 + 5), -1000);
    }

    private static int code(int... digits) {
        int code = 0;
        for (int digit : digits) {
            code = 3 * code + digit;
        }
        return code;
    }

    private static void scoreTerms() {
        due("terms: a stack", row(0, 1, 0, 3, 2).scoreOf(code(1, 1, 2, 2)), 10);
        due("terms: a bulge on the left", row(0, 1, 0, 0, 3, 2).scoreOf(code(1, 0, 1, 2, 2)), 6);
        due("terms: a bulge on the right", row(0, 1, 0, 3, 0, 2).scoreOf(code(1, 1, 2, 0, 2)), 6);
        due("terms: a bulge on both sides", row(0, 1, 0, 0, 3, 0, 2).scoreOf(code(1, 0, 1, 2, 0, 2)), 6);
        due("terms: a branch of two", row(0, 1, 0, 3, 0, 3, 2).scoreOf(code(1, 1, 2, 1, 2, 2)), 8);
        due("terms: a branch of three",
                row(0, 1, 0, 3, 0, 3, 0, 3, 2).scoreOf(code(1, 1, 2, 1, 2, 1, 2, 2)), 11);
        due("terms: a stack of three", row(0, 1, 1, 0, 3, 2, 2).scoreOf(code(1, 1, 1, 2, 2, 2)), 17);
        due("terms: a branch within a stack",
                row(0, 1, 1, 0, 3, 0, 3, 2, 2).scoreOf(code(1, 1, 1, 2, 1, 2, 2, 2)), 15);
        due("terms: pairs side by side", row(0, 0, 3, 2, 1).scoreOf(code(1, 2, 1, 2)), 8);
    }

    private static void questionsChangeNothing() {
        RnaFolder x = row(1, 0, 1, 3, 0, 2, 3, 1, 2);
        x.hold(1, 2);
        x.hold(7, 3);
        x.tune(4, 6);
        int[] first = answers(x);
        int[] second = answers(x);
        for (int n = 0; n < first.length; n++) {
            due("question " + n + " asked again", second[n], first[n]);
        }
        int[] bases = {0, 1, 3, 0, 2, 3, 1, 2};
        for (int place = 7; place >= 0; place--) {
            due("hold after questions", x.hold(place, 0), place == 1 ? 2 : place == 7 ? 3 : 0);
            due("pop after questions", x.pop(), bases[place]);
        }
    }

    private static int[] answers(RnaFolder x) {
        return new int[] {
            x.partner(3), x.foldsWith(0, 2), x.bestWith(1, 4), x.scoreOf(5), x.scoreOf(-1), x.folds(), x.best(),
            x.bestFolds(), x.bestCode(), x.length(), x.fits(0, 5), x.fits(0, 9), x.bestWith(0, 9), x.partner(1),
            x.foldsWith(9, 0), x.partner(9)
        };
    }

    private static void fullUse() {
        RnaFolder x = row(0, 0, 3, 0, 3, 0, 3, 0, 3, 0, 3, 0);
        int folds = x.folds();
        for (int n = 12; n < 511; n++) {
            due("call " + (n + 1) + ": folds()", x.folds(), folds);
        }
        due("call 512: length()", x.length(), 11);
    }
}
