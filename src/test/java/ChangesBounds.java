/** The boundary cases that "Changes and errors" names. */
final class ChangesBounds extends Bounds {
    ChangesBounds(Check check, Document document) {
        super(check, document);
    }

    void all() {
        section("Changes and errors");
        changesAreRecorded();
        fourStates();
        severalErrors();
        errorsChangeNothing();
        constants();
        plain("Ahead of the calls `open`, `shut` the interface says: ---- servants.");
        plain("Ahead of the calls `cord`, `join`, `keys`, `draft` the interface says: ---- cords, halls, keys.");
        plain("Ahead of the calls `guestOpens`, `guestShuts`, `walk` the interface says: ---- guests.");
        plain("Ahead of the calls `append`, `clear`, `fault`, `run`, `why` the interface says: ---- texts.");
        plain("Ahead of the calls `door`, `hall`, `guest`, `whyNot`, `together`, `can`, `deeds`, `count`, `tightness` "
            + "the interface says: ---- looks; nothing is changed.");
        plain("Ahead of the calls `ifOpened` the interface says: ---- what would be; nothing is changed.");
        plain("Ahead of the calls `undo`, `save`, `restore` the interface says: ---- history, snapshot.");
    }

    private void changesAreRecorded() {
        sentence("The changes are the calls of open, shut, cord, join, keys, guestOpens, guestShuts, walk, draft, run "
            + "and restore that return no error; what is refused for a reason is one, too (it is counted).");
        change("open", x -> x.open(0), 11, 0);
        change("open, refused", x -> x.open(6), 2, 1);
        change("shut", x -> x.shut(1), 10, 0);
        change("shut, refused", x -> x.shut(0), 3, 1);
        change("cord", x -> x.cord(9, false, 8), 10, 0);
        change("cord, refused", x -> x.cord(1, false, 5), 4, 1);
        change("join", x -> x.join(9, 5, 0), 34, 0);
        change("keys", x -> x.keys(0, 9), 1, 0);
        change("guestOpens", x -> x.guestOpens(0, 0), 11, 0);
        change("guestOpens, refused", x -> x.guestOpens(1, 0), 6, 1);
        change("guestShuts", x -> x.guestShuts(1, 5), 10, 0);
        change("guestShuts, refused", x -> x.guestShuts(1, 1), 5, 1);
        change("walk", x -> x.walk(2, 5), 15, 0);
        change("walk, refused", x -> x.walk(2, 6), 3, 1);
        change("draft", x -> x.draft(9), 3, 0);
        change("run", x -> Setup.run(x, "o0;c0"), 2, 0);
        change("run, refused at once", x -> Setup.run(x, "c0"), 0, 1);
        change("run, refused later on", x -> Setup.run(x, "o0;o0;o9"), 1, 1);
        change("restore", x -> x.restore(), 2, 0);
        noChange("append", x -> x.append('o'), 1);
        noChange("clear", x -> x.clear(), 0);
        noChange("fault", x -> x.fault(), 0);
        noChange("why", x -> x.why(0), NONE);
        noChange("save", x -> x.save(), 34);
        noChange("a look", x -> x.whyNot(6), 2);
        noChange("what would be", x -> x.ifOpened(0, 0), 33);
        noChange("open, an error", x -> x.open(10), INVALID);
        noChange("join, an error", x -> x.join(1, 0, 2), NOT_POSSIBLE);
        noChange("run, an error", x -> x.run(), NOT_POSSIBLE);
    }

    /** 1 and 5 are open, 0 has a key of 0; there are three states in the history, and a snapshot with 1 open. */
    private static CordDoors threeStates() {
        CordDoors x = new CordDoors();
        x.open(1);
        x.save();
        x.open(5);
        x.keys(0, 1);
        return x;
    }

    private void change(String name, Deed deed, int due, int refused) {
        CordDoors x = threeStates();
        same(name, deed.on(x), due);
        same(name + ": states", x.count(14), 4);
        same(name + ": refused ones", x.count(11), refused);
        same(name + ": undone", x.undo(), 3);
        same(name + ": as before", x.count(0), 34);
        same(name + ": refused ones as before", x.count(11), 0);
    }

    private void noChange(String name, Deed deed, int due) {
        CordDoors x = threeStates();
        same(name, deed.on(x), due);
        same(name + ": states", x.count(14), 3);
        same(name + ": refused ones", x.count(11), 0);
    }

    private void fourStates() {
        sentence("A history of at most 4 states is kept: each change records everything before it but the pad, the "
            + "snapshot and why() (also if nothing is different then), and if there are 5 states then, "
            + "the oldest one is dropped.");
        noState();
        atMostFour();
        nothingDifferent();
        notRecorded();
        roundAndRound();
    }

    private void noState() {
        CordDoors x = new CordDoors();
        same("none", x.count(14), 0);
        same("none to undo", x.undo(), NOT_POSSIBLE);
        x.open(0);
        same("one", x.count(14), 1);
        same("undone", x.undo(), 0);
        same("none again", x.undo(), NOT_POSSIBLE);
    }

    private void atMostFour() {
        for (int changes = 1; changes <= 9; changes++) {
            CordDoors x = new CordDoors();
            for (int change = 1; change <= changes; change++) {
                x.keys(0, change);
            }
            int kept = changes < 4 ? changes : 4;
            String when = changes + " changes: ";
            same(when + "states", x.count(14), kept);
            for (int undone = 1; undone <= kept; undone++) {
                same(when + "undo", x.undo(), kept - undone);
                same(when + "keys", x.guest(0, 1), changes - undone);
            }
            same(when + "no more", x.undo(), NOT_POSSIBLE);
            same(when + "the oldest one", x.guest(0, 1), changes - kept);
        }
    }

    private void nothingDifferent() {
        CordDoors x = new CordDoors();
        x.draft(3);
        same("the same DRAFT", x.count(14), 1);
        x.keys(0, 0);
        same("the same keys", x.count(14), 2);
        x.cord(9, false, 0);
        same("the same cord", x.count(14), 3);
        x.join(9, 4, 3);
        same("the same halls", x.count(14), 4);
        holds("nothing is different", Setup.look(x).equals(Setup.look(new CordDoors())));
        x.undo();
        x.undo();
        x.undo();
        x.save();
        x.restore();
        same("the same snapshot", x.count(14), 2);
        x.undo();
        same("one left", x.undo(), 0);
    }

    private void notRecorded() {
        CordDoors x = new CordDoors();
        x.open(0);
        Setup.append(x, "c1");
        x.save();
        x.run();
        Setup.append(x, "o2;");
        x.undo();
        same("the pad stays", x.count(13), 3);
        same("its characters stay", x.fault(), 3);
        same("why(0) stays", x.why(0), 3);
        x.undo();
        same("all shut", x.count(0), 0);
        same("the snapshot stays", x.restore(), 1);
    }

    /** Changes and undos by turns, so that the states go round in whatever holds them. */
    private void roundAndRound() {
        CordDoors x = new CordDoors();
        int keys = 0;
        for (int round = 1; round <= 20; round++) {
            x.keys(0, 3 * round);
            x.keys(0, 3 * round + 1);
            x.keys(0, 3 * round + 2);
            x.undo();
            x.undo();
            keys = 3 * round;
            same("round " + round, x.guest(0, 1), keys);
        }
        same("states", x.count(14), 2);
        same("the one before", x.undo(), 1);
        same("of the round before", x.guest(0, 1), keys - 3);
    }

    private void severalErrors() {
        sentence("If several errors apply to a call, INVALID_ARGUMENT is returned rather than NOT_POSSIBLE, "
            + "NOT_POSSIBLE rather than LIMIT_REACHED, and LIMIT_REACHED rather than NOT_FOUND; "
            + "errors are looked at ahead of reasons.");
        CordDoors x = busy();
        same("an open door, no such hall", x.join(0, 6, 1), INVALID);
        same("an open door, no such other hall", x.join(0, 1, -1), INVALID);
        same("an open door, one hall twice", x.join(0, 2, 2), INVALID);
        same("an open door's cord to itself, ahead of reason 4", x.cord(0, false, 0), INVALID);
        same("an open door's second cord to itself", x.cord(5, true, 5), INVALID);
        same("no such guest, ahead of reason 1", x.guestOpens(3, 0), INVALID);
        same("no such guest, ahead of reason 3", x.guestShuts(-1, 1), INVALID);
        same("no such guest, ahead of reason 5", x.walk(3, 3), INVALID);
        same("no such property, none there", x.door(0, 10), INVALID);
        same("no such way, no way there", x.deeds(1, 4, 2), INVALID);
        same("no such hall, no such way", x.deeds(1, 6, 2), INVALID);
        x = new CordDoors();
        same("no such number, no such run", x.why(3), INVALID);
        for (int length = 1; length <= 60; length++) {
            x.append('o');
        }
        same("no such character, a full pad", x.append(32), INVALID);
        same("no such character above, a full pad", x.append(127), INVALID);
        same("a full pad", x.append(33), LIMIT);
    }

    private void errorsChangeNothing() {
        sentence("A call that returns an error changes nothing (the pad stays, too).");
        error("open", INVALID, x -> x.open(10));
        error("shut", INVALID, x -> x.shut(-1));
        error("cord of no door", INVALID, x -> x.cord(10, true, 1));
        error("cord to no door", INVALID, x -> x.cord(1, true, 11));
        error("cord to itself", INVALID, x -> x.cord(0, true, 0));
        error("both cords to one", INVALID, x -> x.cord(0, true, 1));
        error("join an open one", NOT_POSSIBLE, x -> x.join(0, 3, 4));
        error("join one hall twice", INVALID, x -> x.join(1, 3, 3));
        error("keys", INVALID, x -> x.keys(0, 1024));
        error("draft", INVALID, x -> x.draft(11));
        error("guestOpens", INVALID, x -> x.guestOpens(0, 10));
        error("guestShuts", INVALID, x -> x.guestShuts(0, 10));
        error("walk", INVALID, x -> x.walk(0, 10));
        error("append", INVALID, x -> x.append(127));
        error("run", NOT_POSSIBLE, x -> x.run());
        error("why", INVALID, x -> x.why(3));
        error("deeds without a way", NONE, x -> x.deeds(0, 3, 0));
        error("deeds back without a way", NONE, x -> x.deeds(0, 3, 1));
        aFullPadStays();
        emptyOnesStay();
    }

    private void aFullPadStays() {
        CordDoors x = new CordDoors();
        Setup.append(x, "o0;o0;o0;o0;o0;o0;o0;o0;o0;o0;o0;o0;o0;o0;o0;o0;o0;o0;o0;o0");
        same("59 characters", x.count(13), 59);
        x.append(';');
        same("character 61", x.append('x'), LIMIT);
        same("60 characters", x.count(13), 60);
        same("none of them is wrong", x.fault(), 60);
        same("not complete", x.run(), NOT_POSSIBLE);
        same("60 characters still", x.clear(), 60);
    }

    private void emptyOnesStay() {
        CordDoors x = new CordDoors();
        same("no history", x.undo(), NOT_POSSIBLE);
        same("no snapshot", x.restore(), NOT_POSSIBLE);
        same("no deeds", x.run(), NOT_POSSIBLE);
        same("no stop", x.why(0), NONE);
        holds("as at first", whole(x).equals(whole(new CordDoors())));
    }

    private void constants() {
        sentence("The constants: `INVALID_ARGUMENT = -1`: An argument is out of its range.");
        same("INVALID_ARGUMENT", CordDoors.INVALID_ARGUMENT, -1);
        same("open(10)", new CordDoors().open(10), -1);
        sentence("`NOT_POSSIBLE = -2`: The call is not possible in the present state.");
        same("NOT_POSSIBLE", CordDoors.NOT_POSSIBLE, -2);
        same("undo()", new CordDoors().undo(), -2);
        sentence("`LIMIT_REACHED = -3`: A fixed limit has been reached.");
        same("LIMIT_REACHED", CordDoors.LIMIT_REACHED, -3);
        CordDoors x = new CordDoors();
        for (int length = 1; length <= 60; length++) {
            x.append('c');
        }
        same("append(99)", x.append('c'), -3);
        sentence("`NOT_FOUND = -4`: There is no such value.");
        same("NOT_FOUND", CordDoors.NOT_FOUND, -4);
        same("why(0)", new CordDoors().why(0), -4);
    }
}
