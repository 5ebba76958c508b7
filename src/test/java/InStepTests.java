/**
 * The run of ../shared/tests/BoardLettersRuns.java with its values put in step, as issue 2 tells:
 * the 152 values belong to the calls that answer int, in their order; the eight others are due by DOC.md.
 */
final class InStepTests {
    public static void main(String[] args) {
        BoardLetters x = new BoardLetters();
        newObject(x);
        lettersOfTheSetup(x);
        wordsOfTheText(x);
        rowsOfTheText(x);
        Check.due("INVALID", BoardLetters.INVALID, -1);
        Check.due("NOT_FOUND", BoardLetters.NOT_FOUND, -2);
        Check.finish("InStepTests");
    }

    private static void newObject(BoardLetters x) {
        Check.due("value(0)", x.value(0), 100);
        Check.due("value(3)", x.value(3), 3);
        Check.due("value(6)", x.value(6), 10);
        Check.due("value(9)", x.value(9), 1);
        Check.due("value(10)", x.value(10), 0);
        Check.due("value(11)", x.value(11), 0);
        Check.due("value(12)", x.value(12), 0);
        Check.due("value(14)", x.value(14), -1);
        Check.due("setupLength()", x.setupLength(), 100);
        Check.due("setupByte(0)", x.setupByte(0), 98);
        Check.due("viewLength()", x.viewLength(), 0);
        Check.dueTruth("fits()", x.fits(), true);
        Check.due("bestSize()", x.bestSize(), 9);
        Check.due("bestGap()", x.bestGap(), 10);
        Check.due("leastInner(1)", x.leastInner(1), -2);
        Check.due("height()", x.height(), 0);
        Check.due("cost()", x.cost(), -2);
        Check.due("leastCost()", x.leastCost(), -2);
        Check.due("bestSwap()", x.bestSwap(), -2);
        Check.due("longest()", x.longest(), -2);
        Check.due("widest(true)", x.widest(true), -2);
        Check.dueReal("meanGap()", x.meanGap(), 0.0);
        Check.dueReal("full(0)", x.full(0), -1.0);
        Check.due("row(0, 0)", x.row(0, 0), -1);
        Check.due("extreme(true)", x.extreme(true), 0);
        Check.due("extreme(false)", x.extreme(false), 0);
        Check.due("say()", x.say(), 0);
        Check.due("undo()", x.undo(), 0);
        Check.due("undo()", x.undo(), -1);
        Check.due("restore(0)", x.restore(0), -2);
        Check.due("errorPosition()", x.errorPosition(), -2);
    }

    private static void lettersOfTheSetup(BoardLetters x) {
        Check.due("append(1651466610, 1679832112, 540225568, 1818583396, 540156003)", x.append(1651466610, 1679832112, 540225568, 1818583396, 540156003), 20);
        Check.due("append(1634738225, 807429985, 1881158432, 2003792484, 540352627)", x.append(1634738225, 807429985, 1881158432, 2003792484, 540352627), 40);
        Check.due("append(1769628960, 825977957, 1953785202, 543236215, 1768187168)", x.append(1769628960, 825977957, 1953785202, 543236215, 1768187168), 60);
        Check.due("append(908094565, 1718886449, 540090417, 540090417, 540090482)", x.append(908094565, 1718886449, 540090417, 540090417, 540090482), 80);
        Check.due("append(1768384628, 540090417, 540090417, 540090417, 996959604)", x.append(1768384628, 540090417, 540090417, 540090417, 996959604), 100);
        Check.due("append(1952805408, 1814067049, 1684348978, 543974758, 1948266528)", x.append(1952805408, 1814067049, 1684348978, 543974758, 1948266528), 120);
        Check.due("append(807415840, 807415840, 807432809, 1734898720, 807415840)", x.append(807415840, 807415840, 807432809, 1734898720, 807415840), 140);
        Check.due("append(807415840, 807415867, 1818588276, 1701978228, 544696676)", x.append(807415840, 807415867, 1818588276, 1701978228, 544696676), 160);
        Check.due("append(1696609824, 1818584692, 540024882, 540155954, 540155954)", x.append(1696609824, 1818584692, 540024882, 540155954, 540155954), 180);
        Check.due("append(544368999, 1752440880, 540155954, 540155954, 544174181)", x.append(544368999, 1752440880, 540155954, 540155954, 544174181), 200);
        Check.due("append(1849389153, 1769087073, 544481379, 1819243365, 1914712379)", x.append(1849389153, 1769087073, 544481379, 1819243365, 1914712379), 220);
        Check.due("load()", x.load(), 3);
        Check.due("setupLength()", x.setupLength(), 220);
        Check.due("setupByte(219)", x.setupByte(219), 59);
        Check.due("value(9)", x.value(9), 3);
        Check.due("value(10)", x.value(10), 1);
        Check.due("gapAt(0, 0, 1)", x.gapAt(0, 0, 1), 3);
        Check.due("gapAt(0, 0, 0)", x.gapAt(0, 0, 0), 2);
        Check.due("gapAt(0, 19, 0)", x.gapAt(0, 19, 0), 2);
        Check.due("gapAt(19, 0, -1)", x.gapAt(19, 0, -1), 3);
        Check.due("gapAt(19, 0, -2)", x.gapAt(19, 0, -2), 2);
        Check.due("gapAt(19, 19, -2)", x.gapAt(19, 19, -2), 3);
        Check.due("gapAt(0, 0, 100)", x.gapAt(0, 0, 100), -1);
        Check.due("gapAt(1, 0, 0)", x.gapAt(1, 0, 0), -1);
        Check.due("distance(0, 0, 3)", x.distance(0, 0, 3), 10);
        Check.due("distance(11, 11, 3)", x.distance(11, 11, 3), 12);
        Check.due("distance(0, 11, 3)", x.distance(0, 11, 3), 11);
        Check.due("distance(0, 19, 3)", x.distance(0, 19, 3), 9);
        Check.due("distance(19, 0, 3)", x.distance(19, 0, 3), 8);
        Check.due("distance(19, 19, 3)", x.distance(19, 19, 3), 7);
        Check.due("distance(11, 19, 3)", x.distance(11, 19, 3), 11);
        Check.due("distance(19, 11, 3)", x.distance(19, 11, 3), 9);
        Check.due("distance(0, 0, 11)", x.distance(0, 0, 11), -1);
        Check.due("correction(0, 19)", x.correction(0, 19), 8);
        Check.due("correction(19, 0)", x.correction(19, 0), 9);
        Check.due("extreme(false)", x.extreme(false), 513);
        Check.due("extreme(true)", x.extreme(true), 297);
        Check.due("bestCorrection(0, 19)", x.bestCorrection(0, 19), 9);
        Check.dueTruth("mirrored(0)", x.mirrored(0), true);
        Check.dueTruth("mirrored(19)", x.mirrored(19), false);
        Check.due("alike(0, true)", x.alike(0, true), 0);
        Check.due("inset(19, true, 5)", x.inset(19, true, 5), -2);
        Check.due("inset(19, false, 1)", x.inset(19, false, 1), 2);
        Check.due("inset(1, true, 0)", x.inset(1, true, 0), -1);
        Check.due("inset(0, true, 6)", x.inset(0, true, 6), -1);
        Check.due("letter(19, 0)", x.letter(19, 0), 6);
        Check.due("letter(19, 1)", x.letter(19, 1), 10);
        Check.due("letter(19, 2)", x.letter(19, 2), 8);
    }

    private static void wordsOfTheText(BoardLetters x) {
        Check.due("letter(19, 3)", x.letter(19, 3), 1);
        Check.due("append(1952541804, 543257632, 1634495520, 1818304628, 1629495328)", x.append(1952541804, 543257632, 1634495520, 1818304628, 1629495328), 20);
        Check.due("truncate(3)", x.truncate(3), 17);
        Check.due("say()", x.say(), 5);
        Check.due("value(11)", x.value(11), 5);
        Check.due("value(12)", x.value(12), 3);
        Check.due("value(13)", x.value(13), 13);
        Check.due("letter(0, 4)", x.letter(0, 4), 5);
        Check.due("letter(11, 4)", x.letter(11, 4), 5);
        Check.due("word(0, 0)", x.word(0, 0), 4);
        Check.due("word(0, 1)", x.word(0, 1), 20);
        Check.due("word(1, 1)", x.word(1, 1), 12);
        Check.due("word(2, 1)", x.word(2, 1), 15);
        Check.due("word(3, 1)", x.word(3, 1), 10);
        Check.due("word(4, 1)", x.word(4, 1), 11);
        Check.due("word(2, 2)", x.word(2, 2), 1);
        Check.due("word(3, 3)", x.word(3, 3), 1);
        Check.due("word(4, 2)", x.word(4, 2), 2);
        Check.due("word(5, 0)", x.word(5, 0), -1);
        Check.due("spelled(0, 0)", x.spelled(0, 0), 19);
        Check.due("spelled(0, 4)", x.spelled(0, 4), -2);
        Check.due("longest()", x.longest(), 0);
        Check.dueTruth("fits()", x.fits(), true);
        Check.due("height()", x.height(), 22);
        Check.due("cost()", x.cost(), 109);
        Check.due("leastCost()", x.leastCost(), 109);
        Check.due("row(0, 0)", x.row(0, 0), 0);
    }

    private static void rowsOfTheText(BoardLetters x) {
        Check.due("row(0, 1)", x.row(0, 1), 2);
        Check.due("row(0, 2)", x.row(0, 2), 6);
        Check.due("row(0, 3)", x.row(0, 3), 3);
        Check.due("row(0, 4)", x.row(0, 4), 37);
        Check.due("row(0, 5)", x.row(0, 5), 1);
        Check.due("row(0, 6)", x.row(0, 6), 3);
        Check.due("row(0, 7)", x.row(0, 7), 5);
        Check.due("row(0, 8)", x.row(0, 8), 5);
        Check.due("row(1, 5)", x.row(1, 5), 5);
        Check.due("row(2, 5)", x.row(2, 5), 14);
        Check.due("row(2, 7)", x.row(2, 7), -2);
        Check.due("row(3, 0)", x.row(3, 0), -1);
        Check.due("place(0, 0)", x.place(0, 0), 1001);
        Check.due("place(0, 1)", x.place(0, 1), 1006);
        Check.due("place(0, 2)", x.place(0, 2), 1014);
        Check.due("place(0, 3)", x.place(0, 3), 1019);
        Check.due("place(0, 4)", x.place(0, 4), 1026);
        Check.due("place(0, 5)", x.place(0, 5), 1032);
        Check.due("place(0, 6)", x.place(0, 6), -2);
        Check.due("letterAt(0, 0)", x.letterAt(0, 0), 19);
        Check.due("letterAt(0, 5)", x.letterAt(0, 5), 19);
        Check.due("letterAt(0, 6)", x.letterAt(0, 6), -2);
        Check.due("gap(0, 0)", x.gap(0, 0), 3);
        Check.due("gap(0, 1)", x.gap(0, 1), 3);
        Check.due("gap(0, 2)", x.gap(0, 2), 3);
        Check.due("gap(0, 3)", x.gap(0, 3), -2);
        Check.due("gap(0, 4)", x.gap(0, 4), 2);
        Check.due("gap(0, 5)", x.gap(0, 5), -2);
        Check.due("uneven(0)", x.uneven(0), 1);
        Check.due("uneven(2)", x.uneven(2), 0);
        Check.due("white(0, 0, 0)", x.white(0, 0, 0), 1000);
        Check.due("white(0, 0, 5)", x.white(0, 0, 5), -2);
        Check.due("white(0, 0, 1)", x.white(0, 0, 1), 1002);
        Check.due("white(0, 3, 0)", x.white(0, 3, 0), -2);
        Check.due("touches(0)", x.touches(0), 1);
        Check.due("touches(1)", x.touches(1), 0);
        Check.due("at(0, 6)", x.at(0, 6), 0);
        Check.due("at(0, 7)", x.at(0, 7), 1);
        Check.due("at(0, 39)", x.at(0, 39), -2);
        Check.due("at(0, 0)", x.at(0, 0), -2);
        Check.dueReal("full(0)", x.full(0), (double) (37f / 40f));
        Check.dueReal("meanGap()", x.meanGap(), 23.0 / 8.0);
        Check.due("widest(true)", x.widest(true), 0);
        Check.due("widest(false)", x.widest(false), 2);
        Check.due("viewLength()", x.viewLength(), 31);
        Check.due("viewByte(0)", x.viewByte(0), 49);
        Check.due("leastInner(3)", x.leastInner(3), 32);
        Check.due("leastInner(1)", x.leastInner(1), 88);
        Check.due("leastInner(2)", x.leastInner(2), 46);
        Check.due("leastInner(12)", x.leastInner(12), 20);
        Check.due("leastInner(13)", x.leastInner(13), -1);
        Check.due("bestSize()", x.bestSize(), 1);
        Check.due("bestGap()", x.bestGap(), 9);
        Check.due("bestSwap()", x.bestSwap(), 2);
    }
}
