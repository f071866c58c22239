/** Promises 11 to 15: append, clear, fault, run, why. */
public final class TextsTest {
    private static final Check CHECK = new Check();

    public static void main(String[] args) {
        append();
        clear();
        faultless();
        faults();
        faultAtEveryCode();
        runDoes();
        runStops();
        runRefusedByFault();
        runIsOneChange();
        why();
        CHECK.end("TextsTest");
    }

    private static void append() {
        CordDoors x = new CordDoors();
        for (int code : new int[] {32, 127, 0, -1, 31, 128, Integer.MIN_VALUE, Integer.MAX_VALUE}) {
            CHECK.same("append(" + code + ")", x.append(code), CordDoors.INVALID_ARGUMENT);
        }
        CHECK.same("empty still", x.count(13), 0);
        for (int length = 1; length <= 60; length++) {
            CHECK.same("append the " + length + ".", x.append(length % 2 == 0 ? 33 : 126), length);
        }
        CHECK.same("full", x.append(33), CordDoors.LIMIT_REACHED);
        CHECK.same("wrong is ahead of full", x.append(32), CordDoors.INVALID_ARGUMENT);
        CHECK.same("wrong is ahead of full, above", x.append(127), CordDoors.INVALID_ARGUMENT);
        CHECK.same("60 still", x.count(13), 60);
        CHECK.same("no change", x.count(14), 0);
    }

    private static void clear() {
        CordDoors x = new CordDoors();
        CHECK.same("empty", x.clear(), 0);
        Setup.append(x, "o1;o");
        CHECK.same("four", x.clear(), 4);
        CHECK.same("empty then", x.count(13), 0);
        CHECK.same("empty again", x.clear(), 0);
        CHECK.same("from the start", x.append('o'), 1);
        CHECK.same("the old ones are gone", x.fault(), 1);
        CHECK.same("no change", x.count(14), 0);
    }

    private static void faultless() {
        String[] texts = {"o0", "o9", "c0", "c9", "g0o0", "g1c9", "g2w5", "o1;c1", "g0w1;o2;g2c9;c3",
            "o0;o0;o0;o0;o0;o0;o0;o0;o0;o0;o0;o0;o0;o0;o0;o0;o0;o0;o0;o0"};
        for (String text : texts) {
            CHECK.same("fault of " + text, Setup.faultOf(text), CordDoors.NOT_FOUND);
        }
    }

    private static void faults() {
        fault("", 0);
        fault("o", 1);
        fault("g", 1);
        fault("g1", 2);
        fault("g1w", 3);
        fault("o1;", 3);
        fault("g1w1;", 5);
        fault("w1", 0);
        fault("1", 0);
        fault(";", 0);
        fault("O1", 0);
        fault("oo", 1);
        fault("o;", 1);
        fault("oa", 1);
        fault("c:", 1);
        fault("c/", 1);
        fault("o10", 2);
        fault("o1o1", 2);
        fault("o1,o1", 2);
        fault("o1;;", 3);
        fault("o1;w1", 3);
        fault("g3o1", 1);
        fault("g/o1", 1);
        fault("go1", 1);
        fault("g0g", 2);
        fault("g01", 2);
        fault("g0x1", 2);
        fault("g0wx", 3);
        fault("g0w11", 4);
        fault("o1;g2c9;x;;", 8);
        String twenty = "o0;o0;o0;o0;o0;o0;o0;o0;o0;o0;o0;o0;o0;o0;o0;o0;o0;o0;o0;o0";
        fault(twenty + ";", 60);
        fault("g0o0;" + twenty.substring(0, 55), 60);
        fault(twenty.substring(0, 57) + "!o0", 57);
    }

    private static void fault(String text, int due) {
        CHECK.same("fault of " + text, Setup.faultOf(text), due);
    }

    private static void faultAtEveryCode() {
        for (int code = 33; code <= 126; code++) {
            String letter = String.valueOf((char) code);
            boolean digit = code >= '0' && code <= '9';
            boolean guest = code >= '0' && code <= '2';
            fault(letter, "ocg".contains(letter) ? 1 : 0);
            fault("o" + letter, digit ? CordDoors.NOT_FOUND : 1);
            fault("c" + letter, digit ? CordDoors.NOT_FOUND : 1);
            fault("g" + letter, guest ? 2 : 1);
            fault("g2" + letter, "ocw".contains(letter) ? 3 : 2);
            fault("g2w" + letter, digit ? CordDoors.NOT_FOUND : 3);
            fault("c4" + letter, letter.equals(";") ? 3 : 2);
        }
    }

    private static void runDoes() {
        CordDoors x = new CordDoors();
        x.keys(2, 32);
        CHECK.same("all kinds of deeds", Setup.run(x, "o0;c0;g2o5;g2w5;g2c5;g2o5"), 6);
        CHECK.same("5 is open", x.count(0), 32);
        CHECK.same("guest 2 is in 5", x.guest(2, 0), 5);
        CHECK.same("guest 0 is in 0", x.guest(0, 0), 0);
        CHECK.same("opened", x.count(7), 3);
        CHECK.same("shut", x.count(8), 2);
        CHECK.same("the pad is empty", x.count(13), 0);
        CHECK.same("all done", x.why(0), CordDoors.NOT_FOUND);
        CHECK.same("none refused", x.count(11), 0);
        CHECK.same("by cords, too", Setup.run(x, "o3;o2"), 2);
        CHECK.same("2 is open", x.count(0), 4);
        CHECK.same("3 and 5 by cords", x.count(9), 2);
        CHECK.same("longest", Setup.run(new CordDoors(), "o0;c0;o0;c0;o0;c0;o0;c0;o0;c0;o0;c0;o0;c0;o0;c0;o0;c0;o0;c0"), 20);
    }

    private static void runStops() {
        stops("o0;o0;o3", 1, 1, 1, 3, 1);
        stops("o1;c2;o5", 1, 3, 1, 3, 2);
        stops("o0;o1;o5", 1, 2, 1, 3, 1);
        stops("g0o0;o5", 0, 6, 0, 0, 0);
        stops("o0;g1w0;g1o0;o5", 2, 6, 2, 8, 1);
        stops("o0;g1w0;g1w5;o5", 2, 5, 2, 8, 1);
        stops("g2w6;o5", 0, 3, 0, 0, 0);
        stops("g2c6", 0, 3, 0, 0, 0);
        stops("g0w9", 0, 5, 0, 0, 0);
        stops("o5;g0w5;g1w5;c5;c5", 4, 3, 4, 16, 0);
    }

    /** What a text does on a new object: how many are done, why it stops, and which doors are open then. */
    private static void stops(String text, int done, int reason, int number, int place, int open) {
        CordDoors x = new CordDoors();
        CHECK.same("run of " + text, Setup.run(x, text), done);
        CHECK.same("reason of " + text, x.why(0), reason);
        CHECK.same("number of " + text, x.why(1), number);
        CHECK.same("place of " + text, x.why(2), place);
        CHECK.same("open after " + text, x.count(0), open);
        CHECK.same("refused by " + text, x.count(11), 1);
        CHECK.same("pad after " + text, x.count(13), 0);
        CHECK.same("history after " + text, x.count(14), 1);
    }

    private static void runRefusedByFault() {
        CordDoors x = new CordDoors();
        CHECK.same("an empty pad", x.run(), CordDoors.NOT_POSSIBLE);
        Setup.append(x, "o1;");
        CHECK.same("not complete", x.run(), CordDoors.NOT_POSSIBLE);
        CHECK.same("the pad stays", x.count(13), 3);
        Setup.append(x, "x");
        CHECK.same("wrong", x.run(), CordDoors.NOT_POSSIBLE);
        CHECK.same("the pad stays, too", x.count(13), 4);
        CHECK.same("nothing is done", x.count(7), 0);
        CHECK.same("no change", x.count(14), 0);
        CHECK.same("no such call", x.why(0), CordDoors.NOT_FOUND);
    }

    private static void runIsOneChange() {
        CordDoors x = new CordDoors();
        Setup.run(x, "o0;c0;o5;c5;o6");
        CHECK.same("one change", x.count(14), 1);
        CHECK.same("undone as one", x.undo(), 0);
        CHECK.same("all shut", x.count(0), 0);
        CHECK.same("none opened", x.count(7), 0);
        CHECK.same("the pad stays empty", x.count(13), 0);
        CHECK.same("none done", Setup.run(x, "c0"), 0);
        CHECK.same("a change, too", x.count(14), 1);
    }

    private static void why() {
        CordDoors x = new CordDoors();
        for (int what = 0; what <= 2; what++) {
            CHECK.same("no run: why(" + what + ")", x.why(what), CordDoors.NOT_FOUND);
        }
        x.save();
        Setup.run(x, "o0;c7");
        why(x, "stopped", 3, 1, 3);
        CHECK.same("not of the range", x.why(3), CordDoors.INVALID_ARGUMENT);
        CHECK.same("not of the range", x.why(-1), CordDoors.INVALID_ARGUMENT);
        CHECK.same("not of the range", x.why(Integer.MAX_VALUE), CordDoors.INVALID_ARGUMENT);
        CHECK.same("not of the range", x.why(Integer.MIN_VALUE), CordDoors.INVALID_ARGUMENT);
        x.undo();
        why(x, "not undone", 3, 1, 3);
        x.restore();
        why(x, "not restored", 3, 1, 3);
        x.shut(7);
        x.open(0);
        x.open(1);
        why(x, "of runs alone", 3, 1, 3);
        x.run();
        why(x, "a run with an error leaves it", 3, 1, 3);
        Setup.run(x, "o0");
        why(x, "the latest one", 1, 0, 0);
        Setup.run(x, "c0");
        why(x, "all done", CordDoors.NOT_FOUND, CordDoors.NOT_FOUND, CordDoors.NOT_FOUND);
        CHECK.same("not of the range, without a stop", x.why(3), CordDoors.INVALID_ARGUMENT);
        x.undo();
        why(x, "all done still", CordDoors.NOT_FOUND, CordDoors.NOT_FOUND, CordDoors.NOT_FOUND);
    }

    private static void why(CordDoors x, String when, int reason, int number, int place) {
        CHECK.same(when + ": why(0)", x.why(0), reason);
        CHECK.same(when + ": why(1)", x.why(1), number);
        CHECK.same(when + ": why(2)", x.why(2), place);
    }
}
