import java.util.ArrayList;
import java.util.List;
import java.util.function.Supplier;
import java.util.function.ToIntFunction;

/**
 * Every sentence of the document that names a boundary case, with a test of its own.
 * A test that fails is told by the sentence's place in the document and its words.
 */
public final class RnaFolderEdges {
    private static final int LOW = Integer.MIN_VALUE;
    private static final int HIGH = Integer.MAX_VALUE;
    private static final int MOST = 11;
    private static final int[] FIRST_NUMBERS = {3, 5, 1, 2, 2, 3};

    private static String sentence = "";
    private static int checked = 0;
    private static int wrong = 0;

    public static void main(String[] args) {
        useAndTerms();
        scoreSentences();
        rulesOfAllMethods();
        changes();
        questions();
        questionsOfOneFold();
        System.out.println(wrong == 0 ? "every sentence holds" : wrong + " answers are not as due");
        if (wrong != 0) {
            System.exit(1);
        }
    }

    private static void useAndTerms() {
        test("What it is: at most 512 calls", RnaFolderEdges::lastCallOfUse);
        test("Terms: the row has at most 11 bases", RnaFolderEdges::fullRow);
        test("Terms: each 0 .. 3", RnaFolderEdges::everyBase);
        test("Terms: it is empty at first", RnaFolderEdges::emptyAtFirst);
        test("Terms: fit if j - i > g", RnaFolderEdges::edgeOfGap);
        test("Terms: 0 and 3, 1 and 2, or 2 and 3 (in either order)", RnaFolderEdges::kindsThatFit);
        test("Terms: a fold is a set of pairs of fitting places", RnaFolderEdges::setOfFittingPairs);
        test("Terms: no place is in two pairs", RnaFolderEdges::placeInTwoPairs);
        test("Terms: no pairs with i < k < j < l", RnaFolderEdges::crossingPairs);
        test("Terms: one digit for every place, the first place's first", RnaFolderEdges::digitsOfCode);
        test("Terms: 0 leaves it free, as all are at first", RnaFolderEdges::freeAtFirst);
        test("Terms: held 1, it must be in no pair", RnaFolderEdges::heldInNoPair);
        test("Terms: held 2, it must be the first place of a pair", RnaFolderEdges::heldFirst);
        test("Terms: held 3, it must be the second", RnaFolderEdges::heldSecond);
        test("Terms: allowed if it is as all held places say", RnaFolderEdges::allHolds);
    }

    private static void scoreSentences() {
        test("Terms: the strength of its kind", RnaFolderEdges::strengthAlone);
        test("Terms: plus the stack bonus if just one, (i + 1, j - 1)", RnaFolderEdges::justOneStacked);
        test("Terms: minus the bulge cost if just one, another", RnaFolderEdges::justOneOther);
        test("Terms: minus the branch cost if two or more", RnaFolderEdges::twoOrMore);
        test("Terms: the pairs directly within", RnaFolderEdges::directlyWithin);
        test("Terms: the empty fold has the score 0", RnaFolderEdges::emptyFold);
        test("Terms: the numbers at first", RnaFolderEdges::numbersAtFirst);
    }

    private static void rulesOfAllMethods() {
        test("Terms: no question changes anything", RnaFolderEdges::questionsChangeNothing);
        test("Terms: a refused call changes nothing", RnaFolderEdges::refusedCallsChangeNothing);
        test("Terms: the tests are made in the order named", RnaFolderEdges::orderOfTests);
        test("Terms: a place is good if it is 0 .. length()-1", RnaFolderEdges::goodPlaces);
    }

    private static void changes() {
        test("1: below 0 becomes 0", RnaFolderEdges::gapTooSmall);
        test("1: above 4 becomes 4", RnaFolderEdges::gapTooLarge);
        test("2: puts a base at the end", RnaFolderEdges::pushAtEnd);
        test("2: not held", RnaFolderEdges::pushNotHeld);
        test("2: -1 if base is not in 0 .. 3", RnaFolderEdges::pushWrongBase);
        test("2: -2 if the row has 11", RnaFolderEdges::pushOnFullRow);
        test("2: otherwise answers its length", RnaFolderEdges::pushAnswersLength);
        test("3: takes the last base away", RnaFolderEdges::popTakesLast);
        test("3: -1 if the row is empty", RnaFolderEdges::popOfEmptyRow);
        test("3: otherwise answers it", RnaFolderEdges::popAnswersBase);
        test("4: changes a base", RnaFolderEdges::setChanges);
        test("4: -1 if place is not good", RnaFolderEdges::setWrongPlace);
        test("4: -2 if base is not in 0 .. 3", RnaFolderEdges::setWrongBase);
        test("4: otherwise answers the one before", RnaFolderEdges::setAnswersBefore);
        test("5: holds a place", RnaFolderEdges::holdHolds);
        test("5: -1 if place is not good", RnaFolderEdges::holdWrongPlace);
        test("5: -2 if how is not in 0 .. 3", RnaFolderEdges::holdWrongHow);
        test("5: otherwise answers how it was held before", RnaFolderEdges::holdAnswersBefore);
        test("6: sets a number of the score", RnaFolderEdges::tuneSets);
        test("6: -1 if which is not in 0 .. 5", RnaFolderEdges::tuneWrongWhich);
        test("6: -2 if value is not in 0 .. 20", RnaFolderEdges::tuneWrongValue);
        test("6: otherwise answers the one before", RnaFolderEdges::tuneAnswersBefore);
    }

    private static void questions() {
        test("7: how many bases the row has", RnaFolderEdges::lengthFromEmptyToFull);
        test("8: 1 if the two places fit, otherwise 0", RnaFolderEdges::fitsOrNot);
        test("8: 0 also if i >= j", RnaFolderEdges::fitsWrongOrder);
        test("8: -1 if i or j is not good", RnaFolderEdges::fitsWrongPlace);
        test("9: how many allowed folds there are", RnaFolderEdges::foldsFromNoneToMany);
        test("10: the greatest score of an allowed fold", RnaFolderEdges::bestFromLeastToGreatest);
        test("10: -1000 if there is none", RnaFolderEdges::bestOfNone);
        test("11: how many allowed folds have the score best()", RnaFolderEdges::bestFoldsOfTies);
        test("11: 0 if there is none", RnaFolderEdges::bestFoldsOfNone);
        test("12: the least code with the score best()", RnaFolderEdges::bestCodeOfTies);
        test("12: -1 if there is none", RnaFolderEdges::bestCodeOfNone);
    }

    private static void questionsOfOneFold() {
        test("13: the place with which a place is paired", RnaFolderEdges::partnerAtEnds);
        test("13: -1 if place is not good", RnaFolderEdges::partnerWrongPlace);
        test("13: -2 if it is in no pair there", RnaFolderEdges::partnerOfLonePlace);
        test("13: -2 if there is no allowed fold", RnaFolderEdges::partnerOfNone);
        test("14: the greatest score with the pair (i, j)", RnaFolderEdges::bestWithPair);
        test("14: -2000 if i or j is not good", RnaFolderEdges::bestWithWrongPlace);
        test("14: -1000 if there is none", RnaFolderEdges::bestWithNone);
        test("15: in how many allowed folds the pair is", RnaFolderEdges::foldsWithPair);
        test("15: -1 if i or j is not good", RnaFolderEdges::foldsWithWrongPlace);
        test("16: the score of the fold with this code", RnaFolderEdges::scoreOfEnds);
        test("16: allowed or not", RnaFolderEdges::scoreOfHeldRow);
        test("16: -1000 if no fold of the row has this code", RnaFolderEdges::scoreOfNoFold);
    }

    // What all tests use.

    private static void test(String words, Runnable test) {
        sentence = words;
        int before = checked;
        try {
            test.run();
        } catch (RuntimeException thrown) {
            // The tests of the other sentences are run all the same.
            wrong++;
            System.out.println(sentence + ": a call threw " + thrown);
        }
        if (checked == before) {
            wrong++;
            System.out.println(sentence + ": nothing was looked at");
        }
    }

    private static void due(String call, int got, int want) {
        checked++;
        if (got != want) {
            wrong++;
            System.out.println(sentence + ": " + call + " answered " + got + ", due is " + want);
        }
    }

    /** A new object with these bases, each a digit. */
    private static RnaFolder row(int gap, String bases) {
        RnaFolder x = new RnaFolder(gap);
        for (char base : bases.toCharArray()) {
            x.push(base - '0');
        }
        return x;
    }

    /** The code of a fold that is drawn with a bracket for each place of a pair. */
    private static int code(String drawn) {
        int code = 0;
        for (char place : drawn.toCharArray()) {
            code = 3 * code + ".()".indexOf(place);
        }
        return code;
    }

    private static void holdAll(RnaFolder x, String hows) {
        for (int place = 0; place < hows.length(); place++) {
            x.hold(place, hows.charAt(place) - '0');
        }
    }

    /** Five 0 and six 3: k pairs are k of each, nested, so there are C(11, 5) = 462 folds. */
    private static RnaFolder fullHairpin() {
        return row(0, "00000333333");
    }

    /** A full row with a hold of each kind and no number as at first. */
    private static RnaFolder busyFull() {
        RnaFolder x = row(1, "01233210312");
        holdAll(x, "00200003010");
        for (int which = 0; which < 6; which++) {
            x.tune(which, 7 + which);
        }
        return x;
    }

    private static RnaFolder busyShort() {
        RnaFolder x = row(2, "103203");
        holdAll(x, "020010");
        x.tune(4, 9);
        return x;
    }

    private static RnaFolder noAllowedFold() {
        RnaFolder x = row(0, "0303");
        x.hold(0, 3);
        return x;
    }

    /** The whole state of an object, read without a question but for the gap; the object is used up by it. */
    private static List<Integer> state(RnaFolder x) {
        List<Integer> all = new ArrayList<>();
        for (int place = 0; place < MOST; place++) {
            all.add(x.hold(place, 0));
        }
        for (int which = 0; which < 6; which++) {
            all.add(x.tune(which, 0));
        }
        for (int n = 0; n <= MOST; n++) {
            all.add(x.pop());
        }
        // Only a question shows the gap, on a row that is made for it.
        for (int n = 0; n < MOST; n++) {
            all.add(x.push(n == 0 ? 0 : 3));
        }
        for (int j = 1; j < MOST; j++) {
            all.add(x.fits(0, j));
        }
        return all;
    }

    private static List<Integer> answers(RnaFolder x) {
        List<Integer> all = new ArrayList<>(List.of(x.length(), x.folds(), x.best(), x.bestFolds(), x.bestCode()));
        for (int place = 0; place < MOST; place++) {
            all.add(x.partner(place));
            all.add(x.fits(place, 10 - place));
            all.add(x.bestWith(place, 10 - place));
            all.add(x.foldsWith(place, 10 - place));
        }
        return all;
    }

    /** The call answers what is due, and leaves the object as one on which it was not made. */
    private static void idle(String call, Supplier<RnaFolder> make, ToIntFunction<RnaFolder> made, int want) {
        RnaFolder x = make.get();
        due(call, made.applyAsInt(x), want);
        boolean sameState = state(x).equals(state(make.get()));
        due(call + " leaves the state as it was (1: yes)", sameState ? 1 : 0, 1);
        RnaFolder y = make.get();
        made.applyAsInt(y);
        boolean sameAnswers = answers(y).equals(answers(make.get()));
        due(call + " leaves the answers as they were (1: yes)", sameAnswers ? 1 : 0, 1);
    }

    // What it is, and Terms.

    private static void lastCallOfUse() {
        RnaFolder x = new RnaFolder(0);
        for (int call = 1; call <= 500; call += 2) {
            due("call " + call + ": push(0)", x.push(0), 1);
            due("call " + (call + 1) + ": pop()", x.pop(), 0);
        }
        for (int n = 1; n <= MOST; n++) {
            due("call " + (500 + n) + ": push()", x.push(n <= 5 ? 0 : 3), n);
        }
        due("call 512: folds()", x.folds(), 462);
    }

    private static void fullRow() {
        RnaFolder x = row(0, "0123012301");
        due("push of the eleventh base", x.push(2), 11);
        due("push of a twelfth base", x.push(3), -2);
        due("length()", x.length(), 11);
        due("pop()", x.pop(), 2);
        due("push when there is room again", x.push(3), 11);
    }

    private static void everyBase() {
        RnaFolder x = new RnaFolder(0);
        for (int base = 0; base <= 3; base++) {
            due("push(" + base + ")", x.push(base), base + 1);
        }
        due("push(-1)", x.push(-1), -1);
        due("push(4)", x.push(4), -1);
        for (int base = 3; base >= 0; base--) {
            due("pop()", x.pop(), base);
        }
    }

    private static void emptyAtFirst() {
        for (int gap = -1; gap <= 5; gap++) {
            due("length() with gap " + gap, new RnaFolder(gap).length(), 0);
            due("pop() with gap " + gap, new RnaFolder(gap).pop(), -1);
            due("folds() with gap " + gap, new RnaFolder(gap).folds(), 1);
            due("first push with gap " + gap, new RnaFolder(gap).push(0), 1);
        }
    }

    private static void edgeOfGap() {
        for (int gap = 0; gap <= 4; gap++) {
            RnaFolder x = row(gap, "03333333333");
            for (int j = 1; j < MOST; j++) {
                due("fits(0, " + j + ") with gap " + gap, x.fits(0, j), j >= gap + 1 ? 1 : 0);
            }
            due("folds() with gap " + gap, x.folds(), 1 + 10 - gap);
            due("foldsWith(0, gap) with gap " + gap, x.foldsWith(0, gap), 0);
            due("foldsWith(0, gap + 1) with gap " + gap, x.foldsWith(0, gap + 1), 1);
        }
    }

    private static void kindsThatFit() {
        String fitting = "03 30 12 21 23 32";
        for (int one = 0; one <= 3; one++) {
            for (int other = 0; other <= 3; other++) {
                String bases = "" + one + other;
                boolean fit = fitting.contains(bases);
                due("fits(0, 1) of " + bases, row(0, bases).fits(0, 1), fit ? 1 : 0);
                due("folds() of " + bases, row(0, bases).folds(), fit ? 2 : 1);
            }
        }
    }

    private static void setOfFittingPairs() {
        due("folds() where nothing fits", row(0, "00000000000").folds(), 1);
        due("folds() of a pair that fits", row(0, "03").folds(), 2);
        due("folds() of a pair in the gap", row(1, "03").folds(), 1);
        due("scoreOf of a pair in the gap", row(1, "03").scoreOf(code("()")), -1000);
        due("scoreOf of two bases that don't fit", row(0, "01").scoreOf(code("()")), -1000);
        due("scoreOf where the outer pair does not fit", row(0, "0030").scoreOf(code("(())")), -1000);
        due("scoreOf where the inner pair does not fit", row(0, "0003").scoreOf(code("(())")), -1000);
        due("scoreOf where the inner pair is in the gap", row(1, "0033").scoreOf(code("(())")), -1000);
    }

    private static void placeInTwoPairs() {
        // (0, 1) and (1, 2) fit but share place 1.
        RnaFolder x = row(0, "030");
        due("fits(0, 1)", x.fits(0, 1), 1);
        due("fits(1, 2)", x.fits(1, 2), 1);
        due("folds()", x.folds(), 3);
        due("best()", x.best(), 3);
        // All ten pairs share place 0.
        due("folds() of one 0 and ten 3", row(0, "03333333333").folds(), 11);
        due("best() of one 0 and ten 3", row(0, "03333333333").best(), 3);
    }

    private static void crossingPairs() {
        // (0, 2) and (1, 3) fit but cross; (2, 3) fits too.
        RnaFolder x = row(0, "0132");
        due("fits(0, 2)", x.fits(0, 2), 1);
        due("fits(1, 3)", x.fits(1, 3), 1);
        due("folds()", x.folds(), 4);
        due("best()", x.best(), 5);
        // The same digits mean the nested pairs (0, 3) and (1, 2), which don't fit here.
        due("scoreOf of (())", x.scoreOf(code("(())")), -1000);
        due("folds() with both firsts held", heldFirsts(x).folds(), 0);
        due("scoreOf of pairs that lie side by side", row(0, "0312").scoreOf(code("()()")), 8);
        due("scoreOf of pairs that lie one in the other", row(0, "0123").scoreOf(code("(())")), 10);
    }

    private static RnaFolder heldFirsts(RnaFolder x) {
        x.hold(0, 2);
        x.hold(1, 2);
        return x;
    }

    private static void digitsOfCode() {
        due("bestCode() of no place", new RnaFolder(0).bestCode(), 0);
        due("bestCode() of one place", row(0, "0").bestCode(), 0);
        due("bestCode() of one pair", row(0, "03").bestCode(), 1 * 3 + 2);
        due("bestCode() with a pair in front", row(0, "0311").bestCode(), 1 * 27 + 2 * 9);
        due("bestCode() with a pair at the end", row(0, "1103").bestCode(), 1 * 3 + 2);
        RnaFolder ends = row(4, "01111111113");
        due("bestCode() with the first and the last of 11 places", ends.bestCode(), 59049 + 2);
        due("scoreOf of the first and the last of 11 places", ends.scoreOf(59049 + 2), 3);
    }

    private static void freeAtFirst() {
        RnaFolder x = fullHairpin();
        due("folds() when nothing was held", x.folds(), 462);
        for (int place = 0; place < MOST; place++) {
            due("first hold(" + place + ", 0)", x.hold(place, 0), 0);
        }
        due("folds() after holding all with 0", x.folds(), 462);
        for (int place = 0; place < MOST; place++) {
            for (int how = 1; how <= 3; how++) {
                x.hold(place, how);
                x.hold(place, 0);
            }
            due("folds() after place " + place + " was let free", x.folds(), 462);
        }
    }

    private static void heldInNoPair() {
        RnaFolder x = row(0, "03");
        x.hold(0, 1);
        due("folds() with place 0 in no pair", x.folds(), 1);
        due("bestCode() with place 0 in no pair", x.bestCode(), 0);
        RnaFolder y = row(0, "03");
        y.hold(1, 1);
        due("folds() with place 1 in no pair", y.folds(), 1);
        RnaFolder all = fullHairpin();
        holdAll(all, "11111111111");
        due("folds() with all 11 in no pair", all.folds(), 1);
        due("best() with all 11 in no pair", all.best(), 0);
        RnaFolder one = row(0, "0");
        one.hold(0, 1);
        due("folds() of one place in no pair", one.folds(), 1);
    }

    private static void heldFirst() {
        RnaFolder x = row(0, "030");
        x.hold(1, 2);
        due("folds() with place 1 first", x.folds(), 1);
        due("bestCode() with place 1 first", x.bestCode(), code(".()"));
        RnaFolder last = row(0, "03");
        last.hold(1, 2);
        due("folds() with the last place first", last.folds(), 0);
        RnaFolder one = row(0, "0");
        one.hold(0, 2);
        due("folds() of one place, held first", one.folds(), 0);
        RnaFolder ends = row(0, "01111111113");
        ends.hold(0, 2);
        due("folds() with the first of 11 first", ends.folds(), 1);
    }

    private static void heldSecond() {
        RnaFolder x = row(0, "030");
        x.hold(1, 3);
        due("folds() with place 1 second", x.folds(), 1);
        due("bestCode() with place 1 second", x.bestCode(), code("()."));
        RnaFolder first = row(0, "03");
        first.hold(0, 3);
        due("folds() with the first place second", first.folds(), 0);
        RnaFolder one = row(0, "0");
        one.hold(0, 3);
        due("folds() of one place, held second", one.folds(), 0);
        RnaFolder ends = row(0, "01111111113");
        ends.hold(10, 3);
        due("folds() with the last of 11 second", ends.folds(), 1);
    }

    private static void allHolds() {
        RnaFolder x = fullHairpin();
        holdAll(x, "22222133333");
        due("folds() with all 11 held to one fold", x.folds(), 1);
        due("bestCode() with all 11 held to one fold", x.bestCode(), code("(((((.)))))"));
        x.hold(5, 3);
        due("folds() with one second too many", x.folds(), 0);
        x.hold(10, 1);
        due("folds() with another fold", x.folds(), 1);
        due("bestCode() with another fold", x.bestCode(), code("((((()))))."));
        x.hold(0, 1);
        due("folds() with one first too few", x.folds(), 0);
    }

    // The score.

    private static void strengthAlone() {
        String[] bases = {"03", "30", "12", "21", "23", "32"};
        for (int n = 0; n < bases.length; n++) {
            due("scoreOf of " + bases[n], row(0, bases[n]).scoreOf(code("()")), FIRST_NUMBERS[n / 2]);
        }
        due("scoreOf with places within, but no pair", row(4, "01111111113").scoreOf(code("(.........)")), 3);
        due("scoreOf of five side by side", row(0, "03031221230").scoreOf(code("()()()()().")), 17);
    }

    private static void justOneStacked() {
        due("one, stacked", row(0, "1032").scoreOf(code("(())")), 5 + 3 + 2);
        due("one, stacked, with room within", row(0, "100032").scoreOf(code("((..))")), 5 + 3 + 2);
        due("four, each stacked in the next", fullHairpin().scoreOf(code("(((((.)))))")), 5 * 3 + 4 * 2);
        RnaFolder x = row(0, "1032");
        x.tune(4, 20);
        x.tune(5, 20);
        due("one, stacked, whatever the costs", x.scoreOf(code("(())")), 5 + 3 + 2);
    }

    private static void justOneOther() {
        due("one, off by one on the left", row(0, "10032").scoreOf(code("(.())")), 5 + 3 - 2);
        due("one, off by one on the right", row(0, "10302").scoreOf(code("(().)")), 5 + 3 - 2);
        due("one, off on both sides alike", row(0, "100302").scoreOf(code("(.().)")), 5 + 3 - 2);
        due("one, off by as much as 11 places let", row(0, "10000000032").scoreOf(code("(.......())")), 5 + 3 - 2);
        RnaFolder x = row(0, "10032");
        x.tune(3, 20);
        x.tune(5, 20);
        due("one, off, whatever the bonus and the branch cost", x.scoreOf(code("(.())")), 5 + 3 - 2);
    }

    private static void twoOrMore() {
        due("two", row(0, "103032").scoreOf(code("(()())")), 5 + 6 - 3);
        due("two, apart from each other and the pair", row(0, "10030300302").scoreOf(code("(.()...().)")), 5 + 6 - 3);
        due("three", row(0, "10303032").scoreOf(code("(()()())")), 5 + 9 - 3);
        due("four, as many as 11 places let", row(0, "10303030320").scoreOf(code("(()()()()).")), 5 + 12 - 3);
        RnaFolder x = row(0, "103032");
        x.tune(3, 20);
        x.tune(4, 20);
        due("two, whatever the bonus and the bulge cost", x.scoreOf(code("(()())")), 5 + 6 - 3);
    }

    private static void directlyWithin() {
        // The outermost has one directly within, stacked; that has two.
        due("two within the one within", row(0, "11030322").scoreOf(code("((()()))")), 5 + 2 + 5 - 3 + 6);
        // The outermost has one directly within, a bulge; that has one, stacked.
        due("one within the one within", row(0, "1010322").scoreOf(code("(.(()))")), 5 - 2 + 5 + 2 + 3);
        // The outermost has two directly within; the first of these has one, stacked.
        due("one within the first of two", row(0, "11032032").scoreOf(code("((())())")), 5 - 3 + 5 + 2 + 3 + 3);
        // Pairs beside a pair are not within it.
        due("pairs on both sides", row(0, "0312303").scoreOf(code("()()()."))
                - row(0, "0312303").scoreOf(code("()..().")), 5);
    }

    private static void emptyFold() {
        due("scoreOf(0) of the empty row", new RnaFolder(0).scoreOf(0), 0);
        due("best() of the empty row", new RnaFolder(0).best(), 0);
        due("scoreOf(0) of one base", row(0, "0").scoreOf(0), 0);
        due("best() of one base", row(0, "0").best(), 0);
        RnaFolder x = fullHairpin();
        for (int which = 0; which < 6; which++) {
            x.tune(which, 20);
        }
        due("scoreOf(0) of a full row with all numbers 20", x.scoreOf(0), 0);
    }

    private static void numbersAtFirst() {
        for (int which = 0; which < 6; which++) {
            RnaFolder x = new RnaFolder(0);
            due("tune(" + which + ", 0) on a new object", x.tune(which, 0), FIRST_NUMBERS[which]);
        }
        due("best() of one pair of kind 0", row(0, "03").best(), 3);
        due("best() of one pair of kind 1", row(0, "12").best(), 5);
        due("best() of one pair of kind 2", row(0, "23").best(), 1);
    }

    // What holds for all methods.

    private static void questionsChangeNothing() {
        List<Supplier<RnaFolder>> makers = List.of(
                () -> new RnaFolder(3), RnaFolderEdges::busyShort, RnaFolderEdges::busyFull,
                RnaFolderEdges::noAllowedFold);
        List<ToIntFunction<RnaFolder>> asked = List.of(
                RnaFolder::length, RnaFolder::folds, RnaFolder::best, RnaFolder::bestFolds, RnaFolder::bestCode,
                x -> x.fits(0, 1), x -> x.fits(1, 0), x -> x.fits(0, 11), x -> x.partner(0), x -> x.partner(11),
                x -> x.bestWith(0, 3), x -> x.bestWith(3, 0), x -> x.bestWith(0, 11), x -> x.foldsWith(0, 3),
                x -> x.foldsWith(3, 0), x -> x.foldsWith(-1, 0), x -> x.scoreOf(0), x -> x.scoreOf(code("(())")),
                x -> x.scoreOf(-1), x -> x.scoreOf(HIGH));
        for (int m = 0; m < makers.size(); m++) {
            for (int n = 0; n < asked.size(); n++) {
                int first = asked.get(n).applyAsInt(makers.get(m).get());
                idle("question " + n + " on object " + m, makers.get(m), asked.get(n), first);
                RnaFolder x = makers.get(m).get();
                for (ToIntFunction<RnaFolder> other : asked) {
                    other.applyAsInt(x);
                }
                due("question " + n + " on object " + m + " after all others", asked.get(n).applyAsInt(x), first);
            }
        }
    }

    private static void refusedCallsChangeNothing() {
        idle("push(-1)", RnaFolderEdges::busyShort, x -> x.push(-1), -1);
        idle("push(4)", RnaFolderEdges::busyShort, x -> x.push(4), -1);
        idle("push(4) on a full row", RnaFolderEdges::busyFull, x -> x.push(4), -1);
        idle("push(0) on a full row", RnaFolderEdges::busyFull, x -> x.push(0), -2);
        idle("push(3) on a full row", RnaFolderEdges::busyFull, x -> x.push(3), -2);
        idle("pop() of the empty row", () -> new RnaFolder(2), RnaFolder::pop, -1);
        idle("set(-1, 0)", RnaFolderEdges::busyShort, x -> x.set(-1, 0), -1);
        idle("set(6, 0) at the length", RnaFolderEdges::busyShort, x -> x.set(6, 0), -1);
        idle("set(11, 0) on a full row", RnaFolderEdges::busyFull, x -> x.set(11, 0), -1);
        idle("set(0, -1)", RnaFolderEdges::busyShort, x -> x.set(0, -1), -2);
        idle("set(5, 4)", RnaFolderEdges::busyShort, x -> x.set(5, 4), -2);
        idle("hold(-1, 1)", RnaFolderEdges::busyShort, x -> x.hold(-1, 1), -1);
        idle("hold(6, 1) at the length", RnaFolderEdges::busyShort, x -> x.hold(6, 1), -1);
        idle("hold(11, 1) on a full row", RnaFolderEdges::busyFull, x -> x.hold(11, 1), -1);
        idle("hold(1, -1)", RnaFolderEdges::busyShort, x -> x.hold(1, -1), -2);
        idle("hold(4, 4)", RnaFolderEdges::busyShort, x -> x.hold(4, 4), -2);
        idle("tune(-1, 5)", RnaFolderEdges::busyShort, x -> x.tune(-1, 5), -1);
        idle("tune(6, 5)", RnaFolderEdges::busyShort, x -> x.tune(6, 5), -1);
        for (int which = 0; which < 6; which++) {
            int w = which;
            idle("tune(" + w + ", -1)", RnaFolderEdges::busyShort, x -> x.tune(w, -1), -2);
            idle("tune(" + w + ", 21)", RnaFolderEdges::busyShort, x -> x.tune(w, 21), -2);
        }
        refusedCallsAtPlacesToCome();
    }

    private static void refusedCallsAtPlacesToCome() {
        RnaFolder x = row(0, "0");
        due("hold(1, 1) of a place to come", x.hold(1, 1), -1);
        due("set(1, 2) of a place to come", x.set(1, 2), -1);
        due("push(3)", x.push(3), 2);
        due("hold of that place", x.hold(1, 0), 0);
        due("folds()", x.folds(), 2);
        due("pop()", x.pop(), 3);
    }

    private static void orderOfTests() {
        RnaFolder full = busyFull();
        due("push(4): base wrong and row full", full.push(4), -1);
        due("push(-1): base wrong and row full", full.push(-1), -1);
        due("set(11, 4): both wrong", full.set(11, 4), -1);
        due("set(-1, -1): both wrong", full.set(-1, -1), -1);
        due("hold(11, 4): both wrong", full.hold(11, 4), -1);
        due("hold(-1, -1): both wrong", full.hold(-1, -1), -1);
        due("tune(6, 21): both wrong", full.tune(6, 21), -1);
        due("tune(-1, -1): both wrong", full.tune(-1, -1), -1);
        due("fits(11, 0): i not good and i >= j", full.fits(11, 0), -1);
        due("fits(0, -1): j not good and i >= j", full.fits(0, -1), -1);
        RnaFolder none = noAllowedFold();
        due("partner(4): not good and no allowed fold", none.partner(4), -1);
        due("partner(-1): not good and no allowed fold", none.partner(-1), -1);
        due("bestWith(0, 4): not good and no allowed fold", none.bestWith(0, 4), -2000);
        due("bestWith(-1, 0): not good and no allowed fold", none.bestWith(-1, 0), -2000);
        due("foldsWith(0, 4): not good and no allowed fold", none.foldsWith(0, 4), -1);
        due("foldsWith(-1, 0): not good and no allowed fold", none.foldsWith(-1, 0), -1);
    }

    private static void goodPlaces() {
        for (int size = 0; size <= MOST; size++) {
            RnaFolder x = row(0, "00000000000".substring(0, size));
            for (int place : new int[] {LOW, -1, 0, size - 1, size, size + 1, MOST, HIGH}) {
                boolean good = place >= 0 && place <= size - 1;
                String at = " at place " + place + " of " + size;
                due("set" + at, x.set(place, 0), good ? 0 : -1);
                due("hold" + at, x.hold(place, 0), good ? 0 : -1);
                due("fits" + at, x.fits(place, place), good ? 0 : -1);
                due("partner" + at, x.partner(place), good ? -2 : -1);
                due("bestWith" + at, x.bestWith(place, place), good ? -1000 : -2000);
                due("foldsWith" + at, x.foldsWith(place, place), good ? 0 : -1);
            }
        }
        RnaFolder y = row(0, "0303");
        due("partner(3) before it is popped", y.partner(3), 0);
        due("pop()", y.pop(), 3);
        due("partner(3) after it was popped", y.partner(3), -1);
        due("set(3, 0) after it was popped", y.set(3, 0), -1);
        due("hold(3, 0) after it was popped", y.hold(3, 0), -1);
        due("fits(0, 3) after it was popped", y.fits(0, 3), -1);
        due("bestWith(0, 3) after it was popped", y.bestWith(0, 3), -2000);
        due("foldsWith(0, 3) after it was popped", y.foldsWith(0, 3), -1);
    }

    // Promises 1 to 6.

    private static void gapTooSmall() {
        for (int gap : new int[] {LOW, LOW + 1, -5, -1, 0}) {
            RnaFolder x = row(gap, "0333");
            due("fits(0, 0) with gap " + gap, x.fits(0, 0), 0);
            due("fits(0, 1) with gap " + gap, x.fits(0, 1), 1);
            due("fits(1, 0) with gap " + gap, x.fits(1, 0), 0);
            due("folds() with gap " + gap, x.folds(), 4);
        }
        due("fits(0, 1) with gap 1, which stays", row(1, "0333").fits(0, 1), 0);
    }

    private static void gapTooLarge() {
        for (int gap : new int[] {4, 5, 6, 10, 11, HIGH - 1, HIGH}) {
            RnaFolder x = row(gap, "0333333");
            due("fits(0, 4) with gap " + gap, x.fits(0, 4), 0);
            due("fits(0, 5) with gap " + gap, x.fits(0, 5), 1);
            due("folds() with gap " + gap, x.folds(), 3);
        }
        due("fits(0, 4) with gap 3, which stays", row(3, "03333").fits(0, 4), 1);
    }

    private static void pushAtEnd() {
        RnaFolder x = new RnaFolder(0);
        String bases = "01233210213";
        for (int n = 0; n < MOST; n++) {
            x.push(bases.charAt(n) - '0');
            due("set of place " + n + ", the last", x.set(n, bases.charAt(n) - '0'), bases.charAt(n) - '0');
            due("set of place 0", x.set(0, 0), 0);
        }
        for (int n = 0; n < MOST; n++) {
            due("set of place " + n + " of a full row", x.set(n, 0), bases.charAt(n) - '0');
        }
    }

    private static void pushNotHeld() {
        for (int size = 1; size <= MOST; size++) {
            RnaFolder x = row(0, "03030303030".substring(0, size));
            due("first hold of the last of " + size, x.hold(size - 1, 1), 0);
            x.pop();
            x.push(0);
            due("hold of the last of " + size + ", pushed anew", x.hold(size - 1, 3), 0);
        }
        RnaFolder y = row(0, "03");
        holdAll(y, "11");
        y.pop();
        y.pop();
        y.push(0);
        y.push(3);
        due("folds() of a row that was held, emptied and pushed anew", y.folds(), 2);
        y.hold(0, 2);
        y.push(0);
        due("a hold of another place, after a push", y.hold(0, 0), 2);
    }

    private static void pushWrongBase() {
        for (int base : new int[] {LOW, -2, -1, 4, 5, HIGH}) {
            due("push(" + base + ") on the empty row", new RnaFolder(0).push(base), -1);
            due("push(" + base + ") on a row of 10", row(0, "0123012301").push(base), -1);
            due("push(" + base + ") on a full row", row(0, "01230123012").push(base), -1);
        }
        due("push(0)", new RnaFolder(0).push(0), 1);
        due("push(3)", new RnaFolder(0).push(3), 1);
    }

    private static void pushOnFullRow() {
        RnaFolder x = row(0, "0123012301");
        due("push(0) on a row of 10", x.push(0), 11);
        for (int base = 0; base <= 3; base++) {
            due("push(" + base + ") on a full row", x.push(base), -2);
        }
        due("pop()", x.pop(), 0);
        due("push(1) after a pop", x.push(1), 11);
        due("push(1) on a row that is full again", x.push(1), -2);
    }

    private static void pushAnswersLength() {
        RnaFolder x = new RnaFolder(0);
        for (int n = 1; n <= MOST; n++) {
            due("push " + n, x.push(3 - n % 4), n);
        }
        for (int n = MOST; n >= 1; n--) {
            x.pop();
            due("push after a pop", x.push(2), n);
            x.pop();
        }
    }

    private static void popTakesLast() {
        RnaFolder x = fullHairpin();
        for (int left = MOST - 1; left >= 0; left--) {
            x.pop();
            due("length() after a pop", x.length(), left);
            due("set of the place that is gone", x.set(left, 0), -1);
        }
        RnaFolder y = row(0, "030");
        y.hold(0, 2);
        y.hold(2, 1);
        y.pop();
        due("hold of a place that stays", y.hold(0, 2), 2);
        due("bestCode() of the row that stays", y.bestCode(), code("()"));
        RnaFolder z = row(0, "03");
        z.hold(1, 2);
        due("folds() while the last place is held first", z.folds(), 0);
        z.pop();
        due("folds() when that place is gone", z.folds(), 1);
    }

    private static void popOfEmptyRow() {
        RnaFolder x = new RnaFolder(0);
        due("pop() of a new row", x.pop(), -1);
        due("pop() again", x.pop(), -1);
        due("push(0)", x.push(0), 1);
        due("pop() of a row of one", x.pop(), 0);
        due("pop() of a row that is empty again", x.pop(), -1);
        RnaFolder full = fullHairpin();
        for (int n = 0; n < MOST; n++) {
            full.pop();
        }
        due("pop() of a full row, the twelfth time", full.pop(), -1);
    }

    private static void popAnswersBase() {
        for (int base = 0; base <= 3; base++) {
            due("pop() of " + base + ", the only one", row(0, "" + base).pop(), base);
            due("pop() of " + base + ", the eleventh", row(0, "0123012301" + base).pop(), base);
        }
        RnaFolder x = row(0, "01");
        x.set(1, 3);
        due("pop() of a base that was set", x.pop(), 3);
        due("pop() of the one before it", x.pop(), 0);
    }

    private static void setChanges() {
        RnaFolder x = row(0, "00000000000");
        due("fits(0, 10) before", x.fits(0, 10), 0);
        x.set(10, 3);
        due("fits(0, 10) after set(10, 3)", x.fits(0, 10), 1);
        due("folds() after set(10, 3)", x.folds(), 11);
        x.set(0, 1);
        due("fits(0, 10) after set(0, 1)", x.fits(0, 10), 0);
        due("folds() after set(0, 1)", x.folds(), 10);
        due("set of the place beside it", x.set(1, 0), 0);
        due("length()", x.length(), 11);
        x.hold(0, 2);
        x.set(0, 0);
        due("hold of a place that was set", x.hold(0, 0), 2);
    }

    private static void setWrongPlace() {
        RnaFolder x = row(0, "012");
        for (int place : new int[] {LOW, -1, 3, 4, 10, 11, HIGH}) {
            due("set(" + place + ", 0) of 3", x.set(place, 0), -1);
        }
        due("set(0, 0) of the empty row", new RnaFolder(0).set(0, 0), -1);
        due("set(11, 0) of a full row", fullHairpin().set(11, 0), -1);
        due("set(0, 0)", x.set(0, 0), 0);
        due("set(2, 0)", x.set(2, 0), 2);
    }

    private static void setWrongBase() {
        RnaFolder x = row(0, "012");
        for (int base : new int[] {LOW, -2, -1, 4, 5, HIGH}) {
            due("set(0, " + base + ")", x.set(0, base), -2);
            due("set(2, " + base + ")", x.set(2, base), -2);
        }
        due("set(2, 0)", x.set(2, 0), 2);
        due("set(2, 3)", x.set(2, 3), 0);
    }

    private static void setAnswersBefore() {
        RnaFolder x = row(0, "01230123012");
        for (int place : new int[] {0, 10}) {
            int before = place % 4;
            for (int base : new int[] {3, 3, 0, 0, 1, 2}) {
                due("set(" + place + ", " + base + ")", x.set(place, base), before);
                before = base;
            }
        }
    }

    private static void holdHolds() {
        RnaFolder x = row(0, "03");
        x.hold(0, 2);
        due("folds() with the first place held 2", x.folds(), 1);
        x.hold(0, 1);
        due("bestCode() with the first place held 1", x.bestCode(), 0);
        x.hold(0, 3);
        due("folds() with the first place held 3", x.folds(), 0);
        x.hold(0, 0);
        due("folds() with the first place held 0", x.folds(), 2);
        RnaFolder full = fullHairpin();
        full.hold(10, 1);
        // What stays free is five 0 and five 3: C(10, 5).
        due("folds() with the last of 11 held 1", full.folds(), 252);
        full.hold(10, 3);
        due("folds() with the last of 11 held 3", full.folds(), 462 - 252);
    }

    private static void holdWrongPlace() {
        RnaFolder x = row(0, "012");
        for (int place : new int[] {LOW, -1, 3, 4, 10, 11, HIGH}) {
            due("hold(" + place + ", 0) of 3", x.hold(place, 0), -1);
        }
        due("hold(0, 0) of the empty row", new RnaFolder(0).hold(0, 0), -1);
        due("hold(11, 0) of a full row", fullHairpin().hold(11, 0), -1);
        due("hold(0, 1)", x.hold(0, 1), 0);
        due("hold(2, 1)", x.hold(2, 1), 0);
    }

    private static void holdWrongHow() {
        RnaFolder x = row(0, "012");
        for (int how : new int[] {LOW, -2, -1, 4, 5, HIGH}) {
            due("hold(0, " + how + ")", x.hold(0, how), -2);
            due("hold(2, " + how + ")", x.hold(2, how), -2);
        }
        due("hold(2, 3)", x.hold(2, 3), 0);
        due("hold(2, 0)", x.hold(2, 0), 3);
    }

    private static void holdAnswersBefore() {
        RnaFolder x = fullHairpin();
        for (int place : new int[] {0, 10}) {
            int before = 0;
            for (int how : new int[] {0, 3, 3, 2, 1, 0, 0, 1, 2, 3}) {
                due("hold(" + place + ", " + how + ")", x.hold(place, how), before);
                before = how;
            }
        }
    }

    private static void tuneSets() {
        String[] bases = {"03", "12", "23", "1032", "10032", "103032"};
        String[] drawn = {"()", "()", "()", "(())", "(.())", "(()())"};
        int[] rest = {0, 0, 0, 8, 8, 11};
        for (int which = 0; which < 6; which++) {
            for (int value : new int[] {0, 1, 19, 20}) {
                RnaFolder x = row(0, bases[which]);
                x.tune(which, value);
                int want = rest[which] + (which < 4 ? value : -value);
                due("scoreOf after tune(" + which + ", " + value + ")", x.scoreOf(code(drawn[which])), want);
            }
        }
    }

    private static void tuneWrongWhich() {
        RnaFolder x = new RnaFolder(0);
        for (int which : new int[] {LOW, -2, -1, 6, 7, HIGH}) {
            due("tune(" + which + ", 0)", x.tune(which, 0), -1);
            due("tune(" + which + ", 20)", x.tune(which, 20), -1);
        }
        due("tune(0, 0)", x.tune(0, 0), 3);
        due("tune(5, 0)", x.tune(5, 0), 3);
    }

    private static void tuneWrongValue() {
        RnaFolder x = new RnaFolder(0);
        for (int which = 0; which < 6; which++) {
            for (int value : new int[] {LOW, -2, -1, 21, 22, HIGH}) {
                due("tune(" + which + ", " + value + ")", x.tune(which, value), -2);
            }
            due("tune(" + which + ", 0)", x.tune(which, 0), FIRST_NUMBERS[which]);
            due("tune(" + which + ", 20)", x.tune(which, 20), 0);
        }
    }

    private static void tuneAnswersBefore() {
        RnaFolder x = new RnaFolder(0);
        for (int which = 0; which < 6; which++) {
            int before = FIRST_NUMBERS[which];
            for (int value : new int[] {20, 20, 0, 0, 1, 19, 10 + which}) {
                due("tune(" + which + ", " + value + ")", x.tune(which, value), before);
                before = value;
            }
        }
        for (int which = 0; which < 6; which++) {
            due("tune(" + which + ", 0) after all others", x.tune(which, 0), 10 + which);
        }
    }

    // Promises 7 to 12.

    private static void lengthFromEmptyToFull() {
        RnaFolder x = new RnaFolder(0);
        due("length() of the empty row", x.length(), 0);
        for (int n = 1; n <= MOST; n++) {
            x.push(0);
            due("length() after push " + n, x.length(), n);
        }
        x.push(0);
        due("length() after a push on a full row", x.length(), 11);
        for (int n = MOST - 1; n >= 0; n--) {
            x.pop();
            due("length() after a pop", x.length(), n);
        }
        x.pop();
        due("length() after a pop of the empty row", x.length(), 0);
    }

    private static void fitsOrNot() {
        RnaFolder x = row(4, "03333311113");
        due("fits(0, 4), just too near", x.fits(0, 4), 0);
        due("fits(0, 5), just far enough", x.fits(0, 5), 1);
        due("fits(0, 10), the first and the last of 11", x.fits(0, 10), 1);
        due("fits(0, 9), far enough but of no kind", x.fits(0, 9), 0);
        holdAll(x, "11111111111");
        due("fits(0, 10), whatever is held", x.fits(0, 10), 1);
    }

    private static void fitsWrongOrder() {
        RnaFolder x = fullHairpin();
        for (int i = 0; i < MOST; i++) {
            for (int j = 0; j <= i; j++) {
                due("fits(" + i + ", " + j + ")", x.fits(i, j), 0);
            }
        }
        due("fits(0, 10)", x.fits(0, 10), 1);
        due("fits(0, 0) of one base", row(0, "0").fits(0, 0), 0);
    }

    private static void fitsWrongPlace() {
        RnaFolder x = row(0, "033");
        for (int place : new int[] {LOW, -1, 3, 4, 11, HIGH}) {
            due("fits(" + place + ", 2)", x.fits(place, 2), -1);
            due("fits(0, " + place + ")", x.fits(0, place), -1);
            due("fits(" + place + ", " + place + ")", x.fits(place, place), -1);
        }
        due("fits(LOW, HIGH)", x.fits(LOW, HIGH), -1);
        due("fits(HIGH, LOW)", x.fits(HIGH, LOW), -1);
        due("fits(0, 2)", x.fits(0, 2), 1);
        due("fits(0, 0) of the empty row", new RnaFolder(0).fits(0, 0), -1);
        due("fits(0, 11) of a full row", fullHairpin().fits(0, 11), -1);
    }

    private static void foldsFromNoneToMany() {
        due("folds() of the empty row", new RnaFolder(0).folds(), 1);
        due("folds() of one base", row(0, "0").folds(), 1);
        due("folds() of a full row where nothing fits", row(0, "00000000000").folds(), 1);
        due("folds() of a full row", fullHairpin().folds(), 462);
        due("folds() where no fold is allowed", noAllowedFold().folds(), 0);
        RnaFolder x = fullHairpin();
        x.hold(10, 2);
        due("folds() of a full row where no fold is allowed", x.folds(), 0);
    }

    private static void bestFromLeastToGreatest() {
        RnaFolder most = fullHairpin();
        most.tune(0, 20);
        most.tune(3, 20);
        due("best(), as great as can be", most.best(), 5 * 20 + 4 * 20);
        RnaFolder least = row(0, "00000003333");
        holdAll(least, "21212123333");
        least.tune(0, 0);
        least.tune(4, 20);
        due("best() of one allowed fold, as small as can be", least.best(), -3 * 20);
        RnaFolder one = row(0, "10032");
        one.tune(1, 0);
        one.tune(0, 1);
        holdAll(one, "21200");
        due("best() just below 0", one.best(), -1);
        one.hold(2, 0);
        due("best() of 0, with a pair", one.best(), 0);
    }

    private static void bestOfNone() {
        due("best() where no fold is allowed", noAllowedFold().best(), -1000);
        RnaFolder one = row(0, "0");
        one.hold(0, 2);
        due("best() of one place that must be in a pair", one.best(), -1000);
        one.hold(0, 0);
        due("best() when it is free again", one.best(), 0);
        RnaFolder full = fullHairpin();
        full.hold(10, 2);
        due("best() of a full row where no fold is allowed", full.best(), -1000);
        due("best() of the empty row, which has a fold", new RnaFolder(0).best(), 0);
    }

    private static void bestFoldsOfTies() {
        due("bestFolds() of the empty row", new RnaFolder(0).bestFolds(), 1);
        due("bestFolds() of one base", row(0, "0").bestFolds(), 1);
        due("bestFolds() of a full row", fullHairpin().bestFolds(), 2);
        RnaFolder x = fullHairpin();
        x.tune(3, 0);
        x.tune(4, 0);
        due("bestFolds() of all with five pairs", x.bestFolds(), 6);
        x.tune(0, 0);
        due("bestFolds() when all scores are 0", x.bestFolds(), 462);
        for (String bases : new String[] {"123", "321"}) {
            RnaFolder near = row(0, bases);
            near.tune(2, 4);
            due("bestFolds() of 5 and of 4, in " + bases, near.bestFolds(), 1);
        }
        RnaFolder below = row(0, "10032");
        below.tune(1, 0);
        below.tune(0, 1);
        holdAll(below, "21200");
        due("bestFolds() when the best is below 0", below.bestFolds(), 1);
    }

    private static void bestFoldsOfNone() {
        due("bestFolds() where no fold is allowed", noAllowedFold().bestFolds(), 0);
        RnaFolder one = row(0, "0");
        one.hold(0, 3);
        due("bestFolds() of one place that must be in a pair", one.bestFolds(), 0);
        RnaFolder full = fullHairpin();
        due("bestFolds() of a full row", full.bestFolds(), 2);
        full.hold(10, 2);
        due("bestFolds() of a full row where no fold is allowed", full.bestFolds(), 0);
    }

    private static void bestCodeOfTies() {
        due("bestCode() of the empty row", new RnaFolder(0).bestCode(), 0);
        due("bestCode() of one base", row(0, "0").bestCode(), 0);
        due("bestCode() of two with the same score", row(0, "030").bestCode(), code(".()"));
        RnaFolder x = fullHairpin();
        due("bestCode() of a full row", x.bestCode(), code("(((((.)))))"));
        x.tune(3, 0);
        x.tune(4, 0);
        due("bestCode() of six with the same score", x.bestCode(), code("(((((.)))))"));
        x.tune(0, 0);
        due("bestCode() when all scores are 0", x.bestCode(), 0);
        x.hold(10, 1);
        x.hold(0, 2);
        due("bestCode() of the least with both holds", x.bestCode(), code("(........)."));
        RnaFolder most = row(0, "03030303030");
        holdAll(most, "23232323231");
        due("bestCode(), as great as 11 places let", most.bestCode(), code("()()()()()."));
    }

    private static void bestCodeOfNone() {
        due("bestCode() where no fold is allowed", noAllowedFold().bestCode(), -1);
        RnaFolder one = row(0, "0");
        one.hold(0, 2);
        due("bestCode() of one place that must be in a pair", one.bestCode(), -1);
        RnaFolder full = fullHairpin();
        due("bestCode() of a full row", full.bestCode(), code("(((((.)))))"));
        full.hold(10, 2);
        due("bestCode() of a full row where no fold is allowed", full.bestCode(), -1);
    }

    // Promises 13 to 16.

    private static void partnerAtEnds() {
        RnaFolder x = fullHairpin();
        for (int place = 0; place < MOST; place++) {
            due("partner(" + place + ")", x.partner(place), place == 5 ? -2 : 10 - place);
        }
        due("partner(1) of two, the place 0", row(0, "03").partner(1), 0);
        due("partner(0) of two, the place 1", row(0, "03").partner(0), 1);
        // Of two folds with the same score, the one with the least code is looked at.
        due("partner(1) of a tie", row(0, "030").partner(1), 2);
    }

    private static void partnerWrongPlace() {
        RnaFolder x = row(0, "030");
        for (int place : new int[] {LOW, -2, -1, 3, 4, 11, HIGH}) {
            due("partner(" + place + ") of 3", x.partner(place), -1);
        }
        due("partner(0) of the empty row", new RnaFolder(0).partner(0), -1);
        due("partner(11) of a full row", fullHairpin().partner(11), -1);
        due("partner(0), which is good", x.partner(0), -2);
        due("partner(2), which is good", x.partner(2), 1);
    }

    private static void partnerOfLonePlace() {
        due("partner(0) of one base", row(0, "0").partner(0), -2);
        RnaFolder x = row(0, "030");
        due("partner(0), the first place", x.partner(0), -2);
        x.hold(2, 1);
        due("partner(2), the last place", x.partner(2), -2);
        due("partner(0), now in a pair", x.partner(0), 1);
        RnaFolder y = row(0, "03");
        y.tune(0, 0);
        due("partner(0) where the empty fold has the least code", y.partner(0), -2);
        due("partner(10) of a full row where nothing fits", row(0, "00000000000").partner(10), -2);
    }

    private static void partnerOfNone() {
        RnaFolder x = noAllowedFold();
        for (int place = 0; place < 4; place++) {
            due("partner(" + place + ") where no fold is allowed", x.partner(place), -2);
        }
        RnaFolder y = row(0, "03");
        due("partner(1) before", y.partner(1), 0);
        y.hold(0, 1);
        y.hold(1, 3);
        due("partner(1) where its pair was the best, and no fold is allowed", y.partner(1), -2);
        due("partner(0) where its pair was the best, and no fold is allowed", y.partner(0), -2);
    }

    private static void bestWithPair() {
        RnaFolder x = fullHairpin();
        due("bestWith(0, 10), the first and the last of 11", x.bestWith(0, 10), 23);
        due("bestWith(4, 5), the nearest", x.bestWith(4, 5), 23);
        due("bestWith(0, 5), which leaves no other", x.bestWith(0, 5), 3);
        due("bestWith(0, 1) of two", row(0, "03").bestWith(0, 1), 3);
        RnaFolder below = row(0, "10032");
        below.tune(1, 0);
        below.tune(0, 1);
        below.hold(2, 2);
        due("bestWith(0, 4) just below 0", below.bestWith(0, 4), -1);
        due("best(), which is without it", below.best(), 1);
    }

    private static void bestWithWrongPlace() {
        RnaFolder x = row(0, "033");
        for (int place : new int[] {LOW, -1, 3, 4, 11, HIGH}) {
            due("bestWith(" + place + ", 2)", x.bestWith(place, 2), -2000);
            due("bestWith(0, " + place + ")", x.bestWith(0, place), -2000);
            due("bestWith(" + place + ", " + place + ")", x.bestWith(place, place), -2000);
        }
        due("bestWith(0, 2)", x.bestWith(0, 2), 3);
        due("bestWith(0, 0) of the empty row", new RnaFolder(0).bestWith(0, 0), -2000);
        due("bestWith(0, 11) of a full row", fullHairpin().bestWith(0, 11), -2000);
    }

    private static void bestWithNone() {
        due("bestWith(0, 1) of two that don't fit", row(0, "00").bestWith(0, 1), -1000);
        due("bestWith(0, 1) in the gap", row(1, "03").bestWith(0, 1), -1000);
        due("bestWith(1, 0), not the order of a pair", row(0, "03").bestWith(1, 0), -1000);
        due("bestWith(0, 0) of one base", row(0, "0").bestWith(0, 0), -1000);
        due("bestWith(1, 2) where no fold is allowed", noAllowedFold().bestWith(1, 2), -1000);
        RnaFolder x = row(0, "03");
        x.hold(1, 1);
        due("bestWith(0, 1) with a place held out of it", x.bestWith(0, 1), -1000);
        RnaFolder y = row(0, "0303");
        holdAll(y, "0020");
        // Place 2 must be first, and (1, 2) would make it second.
        due("bestWith(1, 2) against a hold", y.bestWith(1, 2), -1000);
        due("bestWith(0, 1) beside a hold", y.bestWith(0, 1), 6);
    }

    private static void foldsWithPair() {
        RnaFolder x = fullHairpin();
        // Four 0 and five 3 are left on the same side of the pair: C(9, 4).
        due("foldsWith(0, 10), the first and the last of 11", x.foldsWith(0, 10), 126);
        due("foldsWith(4, 5), the nearest", x.foldsWith(4, 5), 126);
        due("foldsWith(0, 5), which leaves no other", x.foldsWith(0, 5), 1);
        due("foldsWith(10, 0), not the order of a pair", x.foldsWith(10, 0), 0);
        due("foldsWith(0, 0)", x.foldsWith(0, 0), 0);
        due("foldsWith(0, 1), of no kind", x.foldsWith(0, 1), 0);
        x.hold(10, 1);
        due("foldsWith(0, 10) with the last held out of it", x.foldsWith(0, 10), 0);
        due("foldsWith(0, 9) with the last in no pair", x.foldsWith(0, 9), 70);
        due("foldsWith(1, 2) where no fold is allowed", noAllowedFold().foldsWith(1, 2), 0);
        due("foldsWith(0, 1) in the gap", row(1, "03").foldsWith(0, 1), 0);
    }

    private static void foldsWithWrongPlace() {
        RnaFolder x = row(0, "033");
        for (int place : new int[] {LOW, -1, 3, 4, 11, HIGH}) {
            due("foldsWith(" + place + ", 2)", x.foldsWith(place, 2), -1);
            due("foldsWith(0, " + place + ")", x.foldsWith(0, place), -1);
            due("foldsWith(" + place + ", " + place + ")", x.foldsWith(place, place), -1);
        }
        due("foldsWith(0, 2)", x.foldsWith(0, 2), 1);
        due("foldsWith(0, 0) of the empty row", new RnaFolder(0).foldsWith(0, 0), -1);
        due("foldsWith(0, 11) of a full row", fullHairpin().foldsWith(0, 11), -1);
    }

    private static void scoreOfEnds() {
        due("scoreOf(0) of the empty row", new RnaFolder(0).scoreOf(0), 0);
        due("scoreOf(0) of one base", row(0, "0").scoreOf(0), 0);
        due("scoreOf of a code as great as 11 places let", row(0, "03030303030").scoreOf(code("()()()()().")), 15);
        due("scoreOf of the code with the last two places", row(0, "11111111103").scoreOf(5), 3);
        RnaFolder least = row(0, "00000003333");
        least.tune(0, 0);
        least.tune(4, 20);
        due("scoreOf of a score as small as can be", least.scoreOf(code("(.(.(.())))")), -60);
        RnaFolder x = fullHairpin();
        x.tune(0, 20);
        x.tune(3, 20);
        due("scoreOf of a score as great as can be", x.scoreOf(code("(((((.)))))")), 180);
    }

    private static void scoreOfHeldRow() {
        RnaFolder x = row(0, "03");
        holdAll(x, "11");
        due("scoreOf of a pair of places held out of it", x.scoreOf(code("()")), 3);
        holdAll(x, "23");
        due("scoreOf(0) where a pair must be", x.scoreOf(0), 0);
        holdAll(x, "32");
        due("scoreOf of a pair where no fold is allowed", x.scoreOf(code("()")), 3);
        due("scoreOf(0) where no fold is allowed", x.scoreOf(0), 0);
        holdAll(x, "23");
        due("scoreOf of the allowed fold", x.scoreOf(code("()")), 3);
    }

    private static void scoreOfNoFold() {
        int[] powers = {1, 3, 9, 27, 81, 243, 729, 2187, 6561, 19683, 59049, 177147};
        for (int size = 0; size <= MOST; size++) {
            RnaFolder x = row(0, "03030303030".substring(0, size));
            String of = " of " + size + " places";
            due("scoreOf(-1)" + of, x.scoreOf(-1), -1000);
            due("scoreOf(LOW)" + of, x.scoreOf(LOW), -1000);
            due("scoreOf(HIGH)" + of, x.scoreOf(HIGH), -1000);
            due("scoreOf of the first code too large" + of, x.scoreOf(powers[size]), -1000);
            due("scoreOf of the last code too large but one digit" + of, x.scoreOf(3 * powers[size] - 1), -1000);
            due("scoreOf of a pair past a code too large" + of, x.scoreOf(powers[size] + 5), -1000);
            if (size > 0) {
                due("scoreOf of seconds alone" + of, x.scoreOf(powers[size] - 1), -1000);
                due("scoreOf of a first alone" + of, x.scoreOf(powers[size - 1]), -1000);
                due("scoreOf of the last place first" + of, x.scoreOf(1), -1000);
                due("scoreOf of the last place second" + of, x.scoreOf(2), -1000);
            }
        }
        RnaFolder y = row(0, "0303");
        for (String drawn : new String[] {")(..", "())(", ".(()", "((()", "()(.", "().)", "(..(", "(.).", ")..("}) {
            due("scoreOf of " + drawn, y.scoreOf(code(drawn)), -1000);
        }
        everyCodeOfFour();
    }

    private static void everyCodeOfFour() {
        RnaFolder x = row(0, "0303");
        List<String> folds = List.of("....", "()..", ".().", "..()", "(..)", "()()", "(())");
        List<Integer> scores = List.of(0, 3, 3, 3, 3, 6, 8);
        List<Integer> codes = folds.stream().map(RnaFolderEdges::code).toList();
        for (int code = -9; code < 90; code++) {
            int at = codes.indexOf(code);
            due("scoreOf(" + code + ") of 0303", x.scoreOf(code), at < 0 ? -1000 : scores.get(at));
        }
    }
}
