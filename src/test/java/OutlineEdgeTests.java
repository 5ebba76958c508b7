/** The boundary cases of section 1, and of promises 16 to 23 and 45, which ask for letters and pairs. */
final class OutlineEdgeTests {
    private static final int A = 0;
    private static final int B = 1;
    private static final int C = 2;
    private static final String BOARD = Given.board(100, 100, 2, 10, 3, 8, 1);
    private static final String OPEN = "open open open open open open";

    public static void main(String[] args) {
        widesAtTheirEnds();
        insetsAtTheirEnds();
        asManyLettersAsThereAre();
        sumIsCut();
        capIsTheMostOfABand();
        aBandCountsNothingBelowZero();
        openBandsCountCap();
        distanceMayBeBelowZero();
        distanceIsTheLeastOne();
        distanceFromItsLeastEnd();
        distanceToCap();
        correctionIsZeroIfNoneIsTold();
        correctedDistanceAtItsLeastEnd();
        correctedDistanceBeyondCap();
        gapAtHasNoCorrection();
        distancesThatGapAtTakes();
        gapsThatDistanceTakes();
        openIsNoInset();
        sumsOfInsetsAtTheirEnds();
        openBandsAtTheirEnds();
        lettersInTheTextAtTheirEnds();
        extremeOfSeveral();
        extremeOfOneLetter();
        extremeIsForGap();
        mirroredInAllBands();
        alikeInAllBands();
        alikeAtItsEnds();
        bestCorrectionOfSeveral();
        correctionAtItsEnds();
        Check.finish("OutlineEdgeTests");
    }

    /** Section 1: "a WIDE (1 to 60)". */
    private static void widesAtTheirEnds() {
        for (int wide : new int[] {1, 60}) {
            BoardLetters x = Check.loaded(BOARD + Given.even('a', wide, 0, 0));
            Check.due("WIDE " + wide, x.letter(A, 0), wide);
        }
        for (int wide : new int[] {0, 61}) {
            BoardLetters x = new BoardLetters();
            Check.due("WIDE " + wide, Check.load(x, BOARD + Given.even('b', wide, 0, 0)), -1);
            Check.due("place of WIDE " + wide, x.errorPosition(), BOARD.length() + "letter b wide ".length());
            Check.due("b with WIDE " + wide, x.letter(B, 0), -1);
        }
    }

    /** Section 1: "an inset (0 to 9) for each of 6 bands", on each side. */
    private static void insetsAtTheirEnds() {
        for (int band = 0; band < 6; band++) {
            for (int inset : new int[] {0, 9}) {
                String side = Given.side(band, String.valueOf(inset), "4");
                BoardLetters x = Check.loaded(BOARD + Given.letter('a', 5, side, Given.side(4)) + Given.letter('b', 5, Given.side(4), side));
                Check.due("left inset", x.inset(A, false, band), inset);
                Check.due("right inset", x.inset(B, true, band), inset);
                Check.due("right inset of the other side", x.inset(A, true, band), 4);
                Check.due("left inset of the other side", x.inset(B, false, band), 4);
            }
            String side = Given.side(band, "10", "4");
            int left = BOARD.length() + "letter a wide 5 left ".length() + 2 * band;
            BoardLetters x = new BoardLetters();
            Check.due("left inset 10", Check.load(x, BOARD + Given.letter('a', 5, side, Given.side(4))), -1);
            Check.due("its place", x.errorPosition(), left);
            Check.due("right inset 10", Check.load(x, BOARD + Given.letter('a', 5, Given.side(4), side)), -1);
            Check.due("its place", x.errorPosition(), left + "4 4 4 4 4 4 right ".length());
        }
    }

    /** Section 1: "up to 26 letters, a to z, as far as they are told". */
    private static void asManyLettersAsThereAre() {
        StringBuilder all = new StringBuilder(BOARD);
        for (char sign = 'a'; sign <= 'z'; sign++) {
            all.append(Given.even(sign, sign - 'a' + 1, 0, 0));
        }
        BoardLetters x = new BoardLetters();
        Check.due("26 letters", Check.load(x, all.toString()), 26);
        BoardLetters y = new BoardLetters();
        Check.due("a 27th letter", Check.load(y, all + "letter m wide"), -1);
        Check.due("is one that is told already", y.errorPosition(), all.length() + "letter ".length());
        for (int letter = 0; letter < 26; letter++) {
            Check.due("WIDE of letter " + letter, x.letter(letter, 0), letter + 1);
        }
        x = Check.loaded(BOARD + Given.even('m', 5, 0, 0));
        Check.due("one letter", x.value(9), 1);
        for (int letter = -1; letter <= 26; letter++) {
            Check.due("letter " + letter + " beside m", x.letter(letter, 0), letter == 'm' - 'a' ? 5 : -1);
        }
    }

    /** Section 1: "divided by 6 and cut". */
    private static void sumIsCut() {
        int[] sums = {0, 5, 6, 11, 12, 17, 53, 54};
        String[] sides = {"0 0 0 0 0 0", "1 1 1 1 1 0", "1 1 1 1 1 1", "2 2 2 2 2 1", "2 2 2 2 2 2", "3 3 3 3 3 2", "9 9 9 9 9 8", "9 9 9 9 9 9"};
        for (int i = 0; i < sums.length; i++) {
            BoardLetters x = Check.loaded(BOARD + Given.letter('a', 5, Given.side(0), sides[i]));
            Check.due("a sum of " + sums[i], x.gapAt(A, A, 0), sums[i] / 6);
        }
    }

    /** Section 1: "the least one of CAP and of the right inset .. plus d plus the left inset", in each band by itself. */
    private static void capIsTheMostOfABand() {
        BoardLetters x = Check.loaded(Given.board(100, 100, 2, 6, 3, 8, 1) + Given.even('a', 5, 2, 3)
                + Given.letter('b', 5, Given.side(0), "9 0 0 0 0 0") + Given.letter('c', 5, "9 0 0 0 0 0", Given.side(0)));
        Check.due("CAP less 1 in each band", x.gapAt(A, A, 0), 5);
        Check.due("CAP in each band", x.gapAt(A, A, 1), 6);
        Check.due("CAP and 1 in each band", x.gapAt(A, A, 2), 6);
        Check.due("18 in one band, 0 in the others", x.gapAt(B, C, 0), 1);
        Check.due("17 in one band, nothing in the others", x.gapAt(B, C, -1), 1);
    }

    /** Section 1: "0 at least", in each band by itself. */
    private static void aBandCountsNothingBelowZero() {
        // the first band is d, the others are 2 2 2 2 3 and d
        BoardLetters x = Check.loaded(BOARD + Given.letter('a', 5, Given.side(0), "0 2 2 2 2 3"));
        Check.due("0 and 11", x.gapAt(A, A, 0), 1);
        Check.due("1 and 16", x.gapAt(A, A, 1), 2);
        Check.due("-1 and 6", x.gapAt(A, A, -1), 1);
        Check.due("-2 and 1", x.gapAt(A, A, -2), 0);
        Check.due("all below 0", x.gapAt(A, A, -9), 0);
        x = Check.loaded(BOARD + Given.even('a', 5, 4, 4));
        Check.due("1 in each band", x.gapAt(A, A, -7), 1);
        Check.due("0 in each band", x.gapAt(A, A, -8), 0);
        Check.due("-1 in each band", x.gapAt(A, A, -9), 0);
    }

    /** Section 1: "in a band where one of both is open CAP counts", whatever d is. */
    private static void openBandsCountCap() {
        for (int band = 0; band < 6; band++) {
            String side = Given.side(band, "open", "0");
            BoardLetters x = Check.loaded(Given.board(100, 100, 2, 30, 3, 8, 1)
                    + Given.letter('a', 5, Given.side(0), side) + Given.letter('b', 5, side, Given.side(0)));
            Check.due("the first one is open", x.gapAt(A, A, -9), 5);
            Check.due("the second one is open", x.gapAt(B, B, -9), 5);
            Check.due("both are open", x.gapAt(A, B, -9), 5);
            Check.due("none is open on these sides", x.gapAt(B, A, -9), 0);
            Check.due("both are open, far off", x.gapAt(A, B, 99), 30);
            Check.due("both are open, 6 apart", x.gapAt(A, B, 6), (30 + 5 * 6) / 6);
        }
        BoardLetters x = Check.loaded(BOARD + Given.letter('a', 5, OPEN, OPEN));
        Check.due("all bands open, near", x.gapAt(A, A, -9), 10);
        Check.due("all bands open, far", x.gapAt(A, A, 99), 10);
        for (int gap = 0; gap <= 10; gap++) {
            Check.due("open letters for " + gap, x.distance(A, A, gap), 0);
        }
    }

    /** Section 1: "at a distance d (which may be below 0)". */
    private static void distanceMayBeBelowZero() {
        BoardLetters x = Check.loaded(BOARD + Given.even('a', 5, 2, 3));
        Check.due("0", x.gapAt(A, A, 0), 5);
        Check.due("-1", x.gapAt(A, A, -1), 4);
        Check.due("for 5", x.distance(A, A, 5), 9);
        Check.due("for 4", x.distance(A, A, 4), 8);
    }

    /** Section 1: "the least d, -9 to CAP, at which their optical gap is T or more". */
    private static void distanceIsTheLeastOne() {
        String sides = Given.letter('a', 5, "0 1 2 3 4 5", "9 0 open 1 0 0") + Given.letter('b', 5, "open 0 0 9 9 0", "0 0 0 7 0 1");
        BoardLetters x = Check.loaded(BOARD + sides);
        for (int pair = 0; pair < 4; pair++) {
            for (int gap = 0; gap <= 10; gap++) {
                int d = x.distance(pair / 2, pair % 2, gap) - 9;
                Check.dueTruth(gap + " or more at " + d, x.gapAt(pair / 2, pair % 2, d) >= gap, true);
                Check.dueTruth("less ahead of it", d == -9 || x.gapAt(pair / 2, pair % 2, d - 1) < gap, true);
            }
        }
    }

    /** Section 1: "-9 to CAP", at -9. */
    private static void distanceFromItsLeastEnd() {
        BoardLetters x = Check.loaded(BOARD + Given.even('a', 5, 7, 7));
        Check.due("0 holds anywhere", x.distance(A, A, 0), 0);
        Check.due("14 - 9 is 5", x.distance(A, A, 5), 0);
        Check.due("6 asks for 1 more", x.distance(A, A, 6), 1);
        Check.due("a gap of 0 for touching letters", Check.loaded(BOARD + Given.even('a', 5, 0, 0)).distance(A, A, 0), 0);
        Check.due("a gap of 1 for touching letters", Check.loaded(BOARD + Given.even('a', 5, 0, 0)).distance(A, A, 1), 10);
    }

    /** Section 1: "-9 to CAP", at CAP. */
    private static void distanceToCap() {
        for (int cap : new int[] {1, 2, 30}) {
            BoardLetters x = Check.loaded(Given.board(100, 100, 2, cap, 0, 8, 1) + Given.even('a', 5, 0, 0) + Given.letter('b', 5, Given.side(0), "0 0 0 0 0 1"));
            Check.due("CAP " + cap + " of flat letters", x.distance(A, A, cap), cap + 9);
            Check.due("CAP less 1 of flat letters", x.distance(A, A, cap - 1), cap == 1 ? 0 : cap + 8);
            Check.due("CAP with a band that is farther", x.distance(B, A, cap), cap + 9);
        }
    }

    /** Section 1: "0 if none is told". */
    private static void correctionIsZeroIfNoneIsTold() {
        BoardLetters x = Check.loaded(BOARD + Given.even('a', 5, 1, 1) + Given.even('b', 5, 1, 1) + "pair a b wider 1;");
        Check.due("told", x.correction(A, B), 10);
        Check.due("not told the other way", x.correction(B, A), 9);
        Check.due("not told for a a", x.correction(A, A), 9);
        Check.due("distance with it", x.distance(A, B, 3), 11);
        Check.due("distance the other way", x.distance(B, A, 3), 10);
    }

    /** Section 1: "but -9 at least". */
    private static void correctedDistanceAtItsLeastEnd() {
        // for 5 the distance is -2
        BoardLetters x = Check.loaded(BOARD + Given.even('a', 5, 3, 4));
        int[] corrections = {-5, -6, -7, -8, -9};
        int[] due = {2, 1, 0, 0, 0};
        for (int i = 0; i < due.length; i++) {
            x.correct(A, A, corrections[i]);
            Check.due("-2 and " + corrections[i], x.distance(A, A, 5), due[i]);
        }
        x.correct(A, A, -1);
        Check.due("-9 and -1", x.distance(A, A, 0), 0);
        x.correct(A, A, 1);
        Check.due("-9 and 1", x.distance(A, A, 0), 1);
        x.correct(A, A, 9);
        Check.due("-9 and 9", x.distance(A, A, 0), 9);
    }

    /** Section 1: there is a least end alone, so that a pair may be wider than CAP. */
    private static void correctedDistanceBeyondCap() {
        BoardLetters x = Check.loaded(Given.board(100, 100, 2, 30, 3, 8, 1) + Given.even('a', 5, 0, 0) + "pair a a wider 9;");
        Check.due("30 and 9", x.distance(A, A, 30), 48);
        x.correct(A, A, 1);
        Check.due("30 and 1", x.distance(A, A, 30), 40);
        x.correct(A, A, -9);
        Check.due("30 and -9", x.distance(A, A, 30), 30);
    }

    /** Promise 18: "(without correction)". */
    private static void gapAtHasNoCorrection() {
        BoardLetters x = Check.loaded(BOARD + Given.even('a', 5, 1, 1) + "pair a a wider 9;");
        Check.due("wider", x.gapAt(A, A, 0), 2);
        x.correct(A, A, -9);
        Check.due("closer", x.gapAt(A, A, 0), 2);
    }

    /** Promise 18: "a distance, -9 to 99". */
    private static void distancesThatGapAtTakes() {
        BoardLetters x = Check.loaded(BOARD + Given.even('a', 5, 9, 9));
        Check.due("-9", x.gapAt(A, A, -9), 9);
        Check.due("99", x.gapAt(A, A, 99), 10);
        for (int d : new int[] {-10, 100, Given.LEAST_INT, Given.GREATEST_INT}) {
            Check.due("d " + d, x.gapAt(A, A, d), -1);
        }
    }

    /** Promise 19: "0 to CAP". */
    private static void gapsThatDistanceTakes() {
        for (int cap : new int[] {1, 10, 30}) {
            BoardLetters x = Check.loaded(Given.board(100, 100, 2, cap, 0, 8, 1) + Given.even('a', 5, 0, 0));
            Check.due("0 of CAP " + cap, x.distance(A, A, 0), 0);
            Check.due("CAP " + cap, x.distance(A, A, cap), cap + 9);
            for (int gap : new int[] {-1, cap + 1, Given.LEAST_INT, Given.GREATEST_INT}) {
                Check.due("gap " + gap + " of CAP " + cap, x.distance(A, A, gap), -1);
            }
        }
    }

    /** Promise 16: "NOT_FOUND if it is open there", and an inset of 0 is one. */
    private static void openIsNoInset() {
        for (int band = 0; band < 6; band++) {
            BoardLetters x = Check.loaded(BOARD + Given.letter('a', 5, Given.side(band, "open", "0"), Given.side(band, "0", "open")));
            for (int other = 0; other < 6; other++) {
                Check.due("left, band " + other, x.inset(A, false, other), other == band ? -2 : 0);
                Check.due("right, band " + other, x.inset(A, true, other), other == band ? 0 : -2);
            }
            for (int wrong : new int[] {-1, 6, Given.LEAST_INT, Given.GREATEST_INT}) {
                Check.due("band " + wrong, x.inset(A, false, wrong), -1);
                Check.due("band " + wrong, x.inset(A, true, wrong), -1);
            }
        }
    }

    /** Promise 17: "(open bands count 0)". */
    private static void sumsOfInsetsAtTheirEnds() {
        BoardLetters x = Check.loaded(BOARD + Given.letter('a', 5, OPEN, Given.side(9)) + Given.letter('b', 5, Given.side(0), OPEN)
                + Given.letter('c', 5, "open 1 open 1 open 1", "9 open 9 open 9 open"));
        Check.due("open left", x.letter(A, 1), 0);
        Check.due("all of 9", x.letter(A, 2), 54);
        Check.due("all of 0", x.letter(B, 1), 0);
        Check.due("open right", x.letter(B, 2), 0);
        Check.due("three of 1", x.letter(C, 1), 3);
        Check.due("three of 9", x.letter(C, 2), 27);
    }

    /** Promise 17: "the number of its open bands on both sides". */
    private static void openBandsAtTheirEnds() {
        for (int band = 0; band < 6; band++) {
            BoardLetters x = Check.loaded(BOARD + Given.letter('a', 5, Given.side(band, "open", "0"), Given.side(0))
                    + Given.letter('b', 5, Given.side(0), Given.side(band, "open", "0")) + Given.letter('c', 5, OPEN, OPEN)
                    + Given.even('d', 5, 0, 0));
            int[] due = {1, 1, 12, 0};
            for (int letter = 0; letter < 4; letter++) {
                Check.due("open bands of letter " + letter, x.letter(letter, 3), due[letter]);
            }
        }
    }

    /** Promise 17: "how often it stands in the text", from never to everywhere. */
    private static void lettersInTheTextAtTheirEnds() {
        BoardLetters x = Check.loaded(BOARD + Given.even('a', 5, 0, 0) + Given.even('b', 5, 0, 0));
        Check.due("no words", x.letter(A, 4), 0);
        Check.say(x, "aaaaaaaaaaaa ".repeat(30));
        Check.due("in all places", x.letter(A, 4), 360);
        Check.due("nowhere", x.letter(B, 4), 0);
        Check.say(x, "baaaaaaaaaaa aaaaaaaaaaab");
        Check.due("first and last of all", x.letter(B, 4), 2);
        Check.say(x, "a a ".repeat(14) + "a b");
        Check.due("in the last word alone", x.letter(B, 4), 1);
        Check.due("in all others", x.letter(A, 4), 29);
        Check.say(x, "a");
        Check.due("nothing is left of longer words", x.letter(A, 4) * 10 + x.letter(B, 4), 10);
    }

    /** Promise 21: "of several pairs the smallest of these numbers". */
    private static void extremeOfSeveral() {
        BoardLetters x = Check.loaded(BOARD + Given.even('b', 5, 1, 1) + Given.even('y', 5, 1, 1) + Given.even('z', 5, 1, 1));
        Check.due("all alike, least", x.extreme(false), 26 + 1);
        Check.due("all alike, greatest", x.extreme(true), 26 + 1);
        x.correct(25, 25, 2);
        x.correct(25, 24, 2);
        Check.due("z y ahead of z z", x.extreme(true), 26 * 25 + 24);
        x.correct(1, 25, 2);
        Check.due("b z ahead of z y", x.extreme(true), 26 + 25);
        x.correct(25, 25, -2);
        Check.due("z z is the last of all", x.extreme(false), 26 * 25 + 25);
        x.correct(24, 1, -2);
        Check.due("y b ahead of z z", x.extreme(false), 26 * 24 + 1);
        x.correct(24, 1, -1);
        Check.due("less by 1", x.extreme(false), 26 * 25 + 25);
        x.correct(24, 1, 3);
        Check.due("greater by 1", x.extreme(true), 26 * 24 + 1);
    }

    private static void extremeOfOneLetter() {
        for (char sign : new char[] {'a', 'z'}) {
            BoardLetters x = Check.loaded(BOARD + Given.even(sign, 5, 9, 9));
            Check.due("least of " + sign, x.extreme(false), 27 * (sign - 'a'));
            Check.due("greatest of " + sign, x.extreme(true), 27 * (sign - 'a'));
        }
    }

    /** Promise 21: the distances are those for GAP, which "-9 at least" makes equal for GAP 0. */
    private static void extremeIsForGap() {
        BoardLetters x = Check.loaded(BOARD + Given.even('a', 5, 1, 1) + Given.even('b', 5, 0, 0));
        Check.due("b b is the farthest", x.extreme(true), 27);
        x.setNumber(Given.GAP, 0);
        Check.due("all are -9", x.extreme(true), 0);
        x.correct(B, B, -9);
        Check.due("and are not less", x.extreme(false), 0);
        x.setNumber(Given.GAP, 10);
        Check.due("CAP: b b closer", x.extreme(false), 27);
    }

    /** Promise 22: "the same insets and are open in the same bands". */
    private static void mirroredInAllBands() {
        for (int band = 0; band < 6; band++) {
            String open = Given.side(band, "open", "0");
            String far = Given.side(band, "1", "0");
            BoardLetters x = Check.loaded(BOARD + Given.letter('a', 5, open, open) + Given.letter('b', 5, open, Given.side(0))
                    + Given.letter('c', 5, Given.side(0), open) + Given.letter('d', 5, far, far) + Given.letter('e', 5, far, Given.side(0))
                    + Given.letter('f', 5, OPEN, OPEN));
            boolean[] due = {true, false, false, true, false, true, false};
            for (int letter = 0; letter < due.length; letter++) {
                Check.dueTruth("letter " + letter + ", band " + band, x.mirrored(letter), due[letter]);
            }
        }
    }

    /** Promise 23: "just the same side there". */
    private static void alikeInAllBands() {
        for (int band = 0; band < 6; band++) {
            String open = Given.side(band, "open", "0");
            String far = Given.side(band, "1", "0");
            BoardLetters x = Check.loaded(BOARD + Given.letter('a', 5, open, far) + Given.letter('b', 6, open, Given.side(0))
                    + Given.letter('c', 7, Given.side(0), far) + Given.letter('d', 8, far, open));
            int[] left = {1, 1, 0, 0};
            int[] right = {1, 0, 1, 0};
            for (int letter = 0; letter < 4; letter++) {
                Check.due("left of letter " + letter + ", band " + band, x.alike(letter, false), left[letter]);
                Check.due("right of letter " + letter + ", band " + band, x.alike(letter, true), right[letter]);
            }
        }
    }

    /** Promise 23: "how many other letters", from none to all others. */
    private static void alikeAtItsEnds() {
        Check.due("one letter alone, left", new BoardLetters().alike(A, false), 0);
        Check.due("one letter alone, right", new BoardLetters().alike(A, true), 0);
        StringBuilder all = new StringBuilder(BOARD);
        for (char sign = 'a'; sign <= 'z'; sign++) {
            all.append(Given.letter(sign, 5, Given.side(3), OPEN));
        }
        BoardLetters x = Check.loaded(all.toString());
        for (int letter : new int[] {0, 13, 25}) {
            Check.due("all others, left", x.alike(letter, false), 25);
            Check.due("all others, right", x.alike(letter, true), 25);
        }
    }

    /** Promise 45: "of several the one nearest to 0", also where no correction reaches GAP. */
    private static void bestCorrectionOfSeveral() {
        // at -9 the gap is 9, and no less can be had
        BoardLetters x = Check.loaded(Given.board(100, 100, 2, 10, 0, 8, 1) + Given.even('a', 5, 9, 9) + Given.even('b', 5, 0, 0));
        for (int gap = 0; gap <= 10; gap++) {
            x.setNumber(Given.GAP, gap);
            Check.due("far letters for " + gap, x.bestCorrection(A, A), 9);
            Check.due("flat letters for " + gap, x.bestCorrection(B, B), 9);
        }
        x.correct(B, B, 9);
        Check.due("whatever the correction is", x.bestCorrection(B, B), 9);
    }

    /** Promise 20: -9 to 9, told as 0 to 18. */
    private static void correctionAtItsEnds() {
        BoardLetters x = Check.loaded(BOARD + Given.even('a', 5, 0, 0) + Given.even('z', 5, 0, 0)
                + "pair a a closer 9;pair a z wider 9;pair z a closer 0;pair z z wider 0;");
        int[] due = {0, 18, 9, 9};
        for (int pair = 0; pair < 4; pair++) {
            Check.due("pair " + pair, x.correction(25 * (pair / 2), 25 * (pair % 2)), due[pair]);
        }
        Check.due("pairs that are not 0", x.value(10), 2);
    }
}
