/** What the tests of boundary cases share: the sentence at hand, objects to begin with, ranges of arguments. */
abstract class Bounds {
    static final int INVALID = CordDoors.INVALID_ARGUMENT;
    static final int NOT_POSSIBLE = CordDoors.NOT_POSSIBLE;
    static final int LIMIT = CordDoors.LIMIT_REACHED;
    static final int NONE = CordDoors.NOT_FOUND;
    static final int NO_DOOR = 10;

    /** A call with one argument left open. */
    interface Call {
        int with(CordDoors x, int argument);
    }

    /** A call without one. */
    interface Deed {
        int on(CordDoors x);
    }

    private final Check check;
    private final Document document;
    private String words = "";

    Bounds(Check check, Document document) {
        this.check = check;
        this.document = document;
    }

    final void section(String title) {
        document.enter(title);
    }

    /** The words that what follows is a test of. */
    final void sentence(String sentence) {
        words = sentence;
        document.quote(sentence);
    }

    /** Words that name no boundary case. */
    final void plain(String sentence) {
        document.quote(sentence);
    }

    private String at(String call) {
        String shown = words.length() > 60 ? words.substring(0, 60) + ".." : words;
        return document.section() + ": \"" + shown + "\": " + call;
    }

    final void same(String call, long got, long due) {
        check.same(at(call), got, due);
    }

    final void sameDouble(String call, double got, double due) {
        check.sameDouble(at(call), got, due);
    }

    final void holds(String claim, boolean so) {
        check.holds(at(claim), so);
    }

    /** An object in which every look has something to tell, the pad and the history, too. */
    static CordDoors busy() {
        CordDoors x = new CordDoors();
        x.keys(0, 3);
        x.draft(2);
        x.open(3);
        x.open(5);
        x.walk(2, 5);
        x.save();
        Setup.run(x, "o0;o0");
        Setup.append(x, "o1;");
        return x;
    }

    /** Doors without a cord, all in halls 0 and 1, and all shut; DRAFT is 10. */
    static CordDoors allBetweenTwoHalls() {
        CordDoors x = Setup.withoutCords();
        x.draft(10);
        for (int door = 0; door < 10; door++) {
            x.join(door, 0, 1);
        }
        return x;
    }

    static void openAll(CordDoors x) {
        for (int door = 0; door < 10; door++) {
            x.open(door);
        }
    }

    /** All that can be told of an object, as one text; the history is used up by that. */
    static String whole(CordDoors x) {
        StringBuilder text = new StringBuilder(Setup.look(x));
        text.append(x.count(13)).append(' ').append(x.count(14)).append(' ').append(x.fault());
        for (int what = 0; what <= 2; what++) {
            text.append(' ').append(x.why(what));
        }
        for (int undone = 0; undone < 5; undone++) {
            text.append(' ').append(x.undo()).append(' ').append(x.count(0)).append(' ').append(x.count(11));
        }
        return text.append(' ').append(x.restore()).append(' ').append(x.count(11)).toString();
    }

    final void error(String name, int due, Deed deed) {
        CordDoors x = busy();
        same(name, deed.on(x), due);
        holds(name + " changes nothing", whole(x).equals(whole(busy())));
    }

    /** From the least one to the most one an argument is taken; below and above it is an error. */
    final void range(String name, int least, int most, Call call) {
        int[] outside = {least - 1, least - 2, least - 64, most + 1, most + 2, most + 64, most + 65536,
            Integer.MIN_VALUE, Integer.MIN_VALUE + least, Integer.MIN_VALUE + most, Integer.MAX_VALUE};
        for (int argument : outside) {
            error(name + " with " + argument, INVALID, x -> call.with(x, argument));
        }
        holds(name + " with " + least + " is taken", call.with(busy(), least) != INVALID);
        holds(name + " with " + most + " is taken", call.with(busy(), most) != INVALID);
    }
}
