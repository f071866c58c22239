/** The boundary cases that the promises 26 to 28 name. */
final class HistoryBounds extends Bounds {
    HistoryBounds(Check check, Document document) {
        super(check, document);
    }

    void all() {
        undo();
        save();
        restore();
    }

    // ---- Promise 26

    private void undo() {
        section("Promise 26: undo");
        asBefore();
        sentence("Returns how many states the history has then; NOT_POSSIBLE if it has none.");
        CordDoors x = new CordDoors();
        same("none", x.undo(), NOT_POSSIBLE);
        for (int change = 1; change <= 5; change++) {
            x.open(0);
        }
        for (int left = 3; left >= 0; left--) {
            same("undo", x.undo(), left);
        }
        same("none again", x.undo(), NOT_POSSIBLE);
        same("an error changes nothing", x.count(0), 1);
        x.shut(0);
        same("one more", x.undo(), 0);
    }

    private void asBefore() {
        sentence("`int undo()`: Undoes the latest change: everything but the pad, the snapshot and why() is as it was "
            + "before it.");
        asBefore("open", x -> x.open(4));
        asBefore("open, refused", x -> x.open(1));
        asBefore("shut", x -> x.shut(0));
        asBefore("cord", x -> x.cord(0, false, NO_DOOR));
        asBefore("second cord", x -> x.cord(9, true, 8));
        asBefore("join", x -> x.join(9, 0, 5));
        asBefore("keys", x -> x.keys(2, 1023));
        asBefore("draft", x -> x.draft(10));
        asBefore("guestOpens", x -> x.guestOpens(2, 0));
        asBefore("guestShuts", x -> x.guestShuts(0, 5));
        asBefore("walk", x -> x.walk(0, 5));
        asBefore("restore", x -> x.restore());
        accountsAsBefore();
        CordDoors x = busy();
        String before = Setup.look(x);
        x.clear();
        same("run of two, a third is refused", Setup.run(x, "c5;c0;c3"), 2);
        x.append('o');
        same("undone", x.undo(), 3);
        holds("as before the run", Setup.look(x).equals(before));
        same("the pad is not", x.count(13), 1);
        same("why(1) is not", x.why(1), 2);
    }

    /** A door that shuts by a cord, and one that shuts by a draft. */
    private void accountsAsBefore() {
        CordDoors x = new CordDoors();
        x.open(1);
        x.open(5);
        x.draft(1);
        x.save();
        String before = Setup.look(x);
        same("1 by a cord, 5 by a draft", x.open(0), 12);
        same("by cords", x.count(9), 1);
        same("by drafts", x.count(10), 1);
        x.undo();
        holds("both are undone", Setup.look(x).equals(before));
        x.open(0);
        x.restore();
        same("by cords, restored", x.count(9), 0);
        same("by drafts, restored", x.count(10), 0);
    }

    private void asBefore(String name, Deed change) {
        CordDoors x = busy();
        holds(name + " is no error", change.on(x) >= 0);
        holds(name + " changes something", !Setup.look(x).equals(Setup.look(busy())));
        x.undo();
        holds(name + " is undone", Setup.look(x).equals(Setup.look(busy())));
    }

    // ---- Promise 27

    private void save() {
        section("Promise 27: save");
        sentence("`int save()`: Takes a snapshot of everything but the pad, the history and why(), "
            + "in place of the one that was.");
        CordDoors x = busy();
        String saved = Setup.look(x);
        x.save();
        x.draft(9);
        x.cord(9, true, 8);
        x.join(7, 0, 5);
        x.keys(1, 1023);
        x.guestOpens(1, 7);
        x.walk(1, 7);
        x.shut(5);
        x.append('c');
        same("four states", x.count(14), 4);
        x.restore();
        holds("as saved, not as saved before", Setup.look(x).equals(saved));
        same("the pad is not", x.count(13), 4);
        same("the history is not", x.undo(), 3);
        same("the walk is undone once more", x.guest(1, 3), 1);
        sentence("Returns the set of open doors.");
        x = allBetweenTwoHalls();
        same("none", x.save(), 0);
        openAll(x);
        same("all", x.save(), 1023);
        x.draft(1);
        x.shut(9);
        x.open(9);
        same("9", x.save(), 512);
    }

    // ---- Promise 28

    private void restore() {
        section("Promise 28: restore");
        sentence("`int restore()`: Restores the snapshot, which stays.");
        CordDoors x = new CordDoors();
        x.open(0);
        x.save();
        for (int time = 1; time <= 6; time++) {
            x.open(2 * (time % 5));
            x.cord(1, true, 4 + time % 2);
            same("time " + time, x.restore(), 1);
            same("the cord of old, time " + time, x.door(1, 4), 4);
            same("openings of old, time " + time, x.count(7), 1);
        }
        x.undo();
        x.undo();
        same("undone, it stays", x.restore(), 1);
        x.restore();
        same("restored twice", x.restore(), 1);
        sentence("Returns the set of open doors then; NOT_POSSIBLE if there is none.");
        x = new CordDoors();
        same("none", x.restore(), NOT_POSSIBLE);
        same("no change", x.count(14), 0);
        x.open(9);
        same("none, whatever is open", x.restore(), NOT_POSSIBLE);
        same("9 is open still", x.save(), 512);
        x.undo();
        same("9", x.restore(), 512);
        x.shut(9);
        x.save();
        same("no doors", x.restore(), 0);
    }
}
