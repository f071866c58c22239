/** Promises 26 to 28: undo, save, restore; and which calls are changes. */
public final class HistoryTest {
    private static final Check CHECK = new Check();

    public static void main(String[] args) {
        undoEachChange();
        undoAtMostFour();
        undoLeavesPadAndSnapshot();
        saveAndRestore();
        saveInPlaceOfTheOneThatWas();
        accountsAreRestored();
        restoreIsAChange();
        looksOfAllKinds();
        CHECK.end("HistoryTest");
    }

    /** Does the change of a number, the same ones that the face has. */
    private static int change(CordDoors x, int number) {
        switch (number) {
            case 0: return x.open(8);
            case 1: return x.open(1);
            case 2: return x.shut(0);
            case 3: return x.shut(9);
            case 4: return x.cord(4, true, 9);
            case 5: return x.cord(0, false, 5);
            case 6: return x.join(2, 5, 3);
            case 7: return x.keys(1, 77);
            case 8: return x.draft(1);
            case 9: return x.guestOpens(0, 6);
            case 10: return x.guestOpens(0, 7);
            case 11: return x.guestShuts(0, 0);
            case 12: return x.guestShuts(0, 1);
            case 13: return x.walk(2, 5);
            case 14: return x.walk(2, 6);
            case 15: return Setup.run(x, "c0;o4;o4");
            case 16: return x.restore();
            default: return -1;
        }
    }

    private static CordDoors start() {
        CordDoors x = new CordDoors();
        x.keys(0, 1023);
        x.open(3);
        x.save();
        x.open(0);
        x.open(5);
        return x;
    }

    private static void undoEachChange() {
        for (int number = 0; number <= 16; number++) {
            CordDoors x = start();
            x.undo();
            x.undo();
            x.undo();
            x.undo();
            CHECK.same("four are undone", x.undo(), CordDoors.NOT_POSSIBLE);
            x = start();
            x.undo();
            x.open(5);
            String before = Setup.look(x);
            CHECK.same("history ahead of change " + number, x.count(14), 4);
            CHECK.holds("change " + number + " is no error", change(x, number) >= 0);
            CHECK.holds("change " + number + " changes", !before.equals(Setup.look(x)));
            CHECK.same("history after change " + number, x.count(14), 4);
            CHECK.same("undo of change " + number, x.undo(), 3);
            CHECK.holds("change " + number + " is undone", before.equals(Setup.look(x)));
            CHECK.same("history after undo of " + number, x.count(14), 3);
            change(x, number);
            CHECK.same("again, change " + number, x.count(14), 4);
        }
    }

    private static void undoAtMostFour() {
        CordDoors x = new CordDoors();
        CHECK.same("none at first", x.undo(), CordDoors.NOT_POSSIBLE);
        for (int draft = 4; draft <= 10; draft++) {
            x.draft(draft);
            CHECK.same("history", x.count(14), Math.min(draft - 3, 4));
        }
        for (int undone = 1; undone <= 4; undone++) {
            CHECK.same("undo", x.undo(), 4 - undone);
            CHECK.same("the one before", x.count(12), 10 - undone);
        }
        CHECK.same("no fifth", x.undo(), CordDoors.NOT_POSSIBLE);
        CHECK.same("nothing changed", x.count(12), 6);
        x.draft(2);
        x.draft(2);
        CHECK.same("one that changes nothing is recorded, too", x.undo(), 1);
        CHECK.same("still 2", x.count(12), 2);
        CHECK.same("then none", x.undo(), 0);
        CHECK.same("6 again", x.count(12), 6);
        x.draft(1);
        x.draft(5);
        x.undo();
        x.draft(9);
        CHECK.same("after an undo it goes on", x.undo(), 1);
        CHECK.same("from there", x.count(12), 1);
        CHECK.same("to the start", x.undo(), 0);
        CHECK.same("6 once more", x.count(12), 6);
    }

    private static void undoLeavesPadAndSnapshot() {
        CordDoors x = new CordDoors();
        x.open(0);
        Setup.append(x, "o1");
        x.open(2);
        x.save();
        x.append(';');
        x.undo();
        CHECK.same("the pad stays", x.count(13), 3);
        CHECK.same("the snapshot stays", x.restore(), 5);
        x.undo();
        x.undo();
        CHECK.same("all undone", x.count(0), 0);
        CHECK.same("the snapshot stays still", x.restore(), 5);
        x.undo();
        x.open(7);
        CHECK.same("restored after new changes", x.restore(), 5);
        CHECK.same("two changes", x.count(14), 2);
        CHECK.same("back", x.undo(), 1);
        CHECK.same("7 is open", x.count(0), 128);
    }

    private static void saveAndRestore() {
        CordDoors x = new CordDoors();
        CHECK.same("no snapshot", x.restore(), CordDoors.NOT_POSSIBLE);
        CHECK.same("that is no change", x.count(14), 0);
        CHECK.same("save at first", x.save(), 0);
        CHECK.same("save is no change", x.count(14), 0);
        for (int number = 0; number <= 15; number++) {
            change(x, number);
        }
        CHECK.same("restored", x.restore(), 0);
        CHECK.holds("as at first", Setup.look(x).equals(Setup.look(new CordDoors())));
    }

    private static void saveInPlaceOfTheOneThatWas() {
        CordDoors x = new CordDoors();
        x.save();
        x.open(0);
        x.open(2);
        CHECK.same("save", x.save(), 5);
        x.shut(0);
        CHECK.same("save in place of it", x.save(), 4);
        x.open(4);
        String snapshotted = Setup.look(x);
        x.save();
        x.open(1);
        CHECK.same("restore", x.restore(), 20);
        CHECK.holds("as when saved", Setup.look(x).equals(snapshotted));
        x.open(8);
        CHECK.same("it stays", x.restore(), 20);
        CHECK.holds("as when saved, again", Setup.look(x).equals(snapshotted));
    }

    private static void accountsAreRestored() {
        CordDoors x = Setup.withoutCords();
        x.draft(1);
        x.cord(0, false, 3);
        x.save();
        String before = Setup.look(x);
        x.open(6);
        x.open(3);
        x.open(0);
        x.open(0);
        x.walk(0, 0);
        x.shut(0);
        for (int what = 7; what <= 10; what++) {
            CHECK.holds("count(" + what + ") is not 0", x.count(what) > 0);
        }
        CHECK.same("refused", x.count(11), 1);
        x.restore();
        CHECK.holds("all accounts are restored", before.equals(Setup.look(x)));
        x.undo();
        CHECK.same("by drafts, undone", x.count(10), 1);
        CHECK.same("by cords, undone", x.count(9), 1);
        CHECK.same("refused, undone", x.count(11), 1);
        CHECK.same("walks, undone", x.guest(0, 3), 1);
    }

    private static void restoreIsAChange() {
        CordDoors x = new CordDoors();
        x.open(0);
        x.save();
        x.open(2);
        x.open(4);
        Setup.append(x, "c0");
        CHECK.same("restore", x.restore(), 1);
        CHECK.same("four in the history", x.count(14), 4);
        CHECK.same("the pad stays", x.count(13), 2);
        CHECK.same("undone", x.undo(), 3);
        CHECK.same("as before", x.count(0), 21);
        CHECK.same("the ones before are there", x.undo(), 2);
        CHECK.same("as before those", x.count(0), 5);
    }

    private static void looksOfAllKinds() {
        CordDoors x = new CordDoors();
        x.append('o');
        x.clear();
        x.fault();
        x.run();
        x.why(0);
        x.door(0, 0);
        x.hall(0, 0);
        x.guest(0, 0);
        x.whyNot(0);
        x.together(0);
        x.can(0);
        x.deeds(0, 0, 0);
        x.count(0);
        x.tightness();
        x.ifOpened(0, 0);
        x.save();
        CHECK.same("none of them is a change", x.count(14), 0);
    }
}
