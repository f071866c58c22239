/** The boundary cases that the promises 1 to 15 name. */
final class DeedsBounds extends Bounds {
    DeedsBounds(Check check, Document document) {
        super(check, document);
    }

    void all() {
        newObject();
        open();
        shut();
        cord();
        join();
        keys();
        draft();
        guestOpens();
        guestShuts();
        walk();
        append();
        clear();
        fault();
        run();
        why();
    }

    // ---- Promise 1

    private void newObject() {
        section("Promise 1: A new object");
        sentence("`CordDoors()`: Creates halls with all doors shut.");
        CordDoors x = new CordDoors();
        same("open doors", x.count(1), 0);
        int[] doors = {3, 4, 4, 4, 3, 2};
        for (int hall = 0; hall < 6; hall++) {
            same("doors of hall " + hall, x.hall(hall, 0), doors[hall]);
            same("open ones of hall " + hall, x.hall(hall, 1), 0);
        }
        CordDoors other = new CordDoors();
        other.open(0);
        same("no other object's door", x.count(0), 0);
    }

    // ---- Promise 2

    private void open() {
        section("Promise 2: open");
        plain("`int open(int door)`: A servant opens a door.");
        sentence("`door`: 0 to 9");
        range("open", 0, 9, (x, door) -> x.open(door));
        sentence("Returns 10 and how many doors shut by that; the reason, 1 or 2, if it is refused; INVALID_ARGUMENT.");
        CordDoors x = new CordDoors();
        same("none shut", x.open(8), 10);
        same("1", x.open(8), 1);
        same("2", x.open(9), 2);
        same("one by a cord", x.open(7), 11);
        same("all that are refused are counted", x.count(11), 2);
        x = allBetweenTwoHalls();
        openAll(x);
        x.shut(4);
        x.cord(4, false, 0);
        x.cord(4, true, 9);
        x.draft(1);
        same("nine, two of them by cords", x.open(4), 19);
        same("by cords", x.count(9), 2);
        same("by drafts", x.count(10), 7);
    }

    // ---- Promise 3

    private void shut() {
        section("Promise 3: shut");
        plain("`int shut(int door)`: A servant shuts a door.");
        sentence("`door`: 0 to 9");
        range("shut", 0, 9, (x, door) -> x.shut(door));
        sentence("Returns 10; the reason, 3, if it is refused; INVALID_ARGUMENT.");
        for (int door = 0; door < 10; door++) {
            CordDoors x = new CordDoors();
            same("never opened", x.shut(door), 3);
            x.open(door);
            same("open", x.shut(door), 10);
            same("shut already", x.shut(door), 3);
            same("shut once", x.door(door, 9), 1);
            same("refused twice", x.count(11), 2);
        }
    }

    // ---- Promise 4

    private void cord() {
        section("Promise 4: cord");
        plain("`int cord(int door, boolean second, int other)`: Lays a cord anew.");
        sentence("`door`: 0 to 9: the door whose cord it is");
        range("cord of", 0, 9, (x, door) -> x.cord(door, false, NO_DOOR));
        range("second cord of", 0, 9, (x, door) -> x.cord(door, true, NO_DOOR));
        whichCord();
        whereItGoes();
        answersOfCord();
    }

    private void whichCord() {
        sentence("`second`: whether the second one, otherwise the first one");
        CordDoors x = new CordDoors();
        x.cord(9, true, 8);
        same("the second one", x.door(9, 4), 8);
        same("the first one stays", x.door(9, 3), 0);
        x.cord(9, false, 7);
        same("the first one", x.door(9, 3), 7);
        same("the second one stays", x.door(9, 4), 8);
    }

    private void whereItGoes() {
        sentence("`other`: 0 to 9: the door to which it goes then; 10: none");
        for (int argument : new int[] {-1, -2, -10, 11, 12, 32, 1034, Integer.MIN_VALUE, Integer.MAX_VALUE}) {
            error("cord(4, false, " + argument + ")", INVALID, x -> x.cord(4, false, argument));
            error("cord(4, true, " + argument + ")", INVALID, x -> x.cord(4, true, argument));
        }
        CordDoors x = new CordDoors();
        same("to 0", x.cord(4, false, 0), 10);
        same("goes to 0", x.door(4, 3), 0);
        same("to 9", x.cord(4, false, 9), 10);
        same("goes to 9", x.door(4, 3), 9);
        same("to none", x.cord(4, false, NO_DOOR), 10);
        same("goes to none", x.door(4, 3), NONE);
        same("the cords are fewer by one", x.count(3), 19);
    }

    private void answersOfCord() {
        sentence("Returns 10; the reason, 4, if it is refused; INVALID_ARGUMENT "
            + "(also if other is the door itself, or that to which the other cord of the door goes).");
        CordDoors x = new CordDoors();
        for (int door = 0; door < 10; door++) {
            same("first to itself, " + door, x.cord(door, false, door), INVALID);
            same("second to itself, " + door, x.cord(door, true, door), INVALID);
            same("first as second, " + door, x.cord(door, false, (door + 3) % 10), INVALID);
            same("second as first, " + door, x.cord(door, true, (door + 1) % 10), INVALID);
            same("first as it is, " + door, x.cord(door, false, (door + 1) % 10), 10);
            same("second as it is, " + door, x.cord(door, true, (door + 3) % 10), 10);
        }
        x.cord(2, false, NO_DOOR);
        same("both to none", x.cord(2, true, NO_DOOR), 10);
        x.open(2);
        x.open(4);
        same("both open", x.cord(2, true, 4), 4);
        same("open, to itself", x.cord(2, true, 2), INVALID);
        x.shut(2);
        same("where the other cord went before", x.cord(2, true, 3), 10);
    }

    // ---- Promise 5

    private void join() {
        section("Promise 5: join");
        plain("`int join(int door, int one, int other)`: Changes which halls a door joins.");
        sentence("`door`: 0 to 9");
        range("join of", 0, 9, (x, door) -> x.join(door, 2, 4));
        sentence("`one`: 0 to 5");
        range("join to one", 0, 5, (x, hall) -> x.join(8, hall, 3));
        sentence("`other`: 0 to 5, another one");
        range("join to the other", 0, 5, (x, hall) -> x.join(8, 3, hall));
        for (int hall = 0; hall < 6; hall++) {
            int both = hall;
            error("both are " + hall, INVALID, x -> x.join(8, both, both));
        }
        answersOfJoin();
    }

    private void answersOfJoin() {
        sentence("Returns 10 times the lesser one of the halls before, and the greater one; INVALID_ARGUMENT; "
            + "NOT_POSSIBLE if the door is open.");
        CordDoors x = new CordDoors();
        same("0 and 1", x.join(0, 5, 4), 1);
        same("4 and 5", x.join(0, 0, 5), 45);
        same("0 and 5", x.join(0, 5, 0), 5);
        same("0 and 5 again", x.join(0, 3, 2), 5);
        same("2 and 3", x.join(0, 3, 2), 23);
        x.open(0);
        same("open", x.join(0, 0, 1), NOT_POSSIBLE);
        same("open, as it is", x.join(0, 2, 3), NOT_POSSIBLE);
        same("held", x.join(1, 0, 5), 12);
        x.shut(0);
        same("shut again", x.join(0, 0, 1), 23);
    }

    // ---- Promise 6

    private void keys() {
        section("Promise 6: keys");
        sentence("`int keys(int guest, int doors)`: Gives a guest keys, in place of those before.");
        CordDoors x = new CordDoors();
        x.keys(0, 1023);
        x.keys(0, 32);
        same("none of those before", x.guestOpens(0, 0), 6);
        same("the new one", x.guestOpens(0, 5), 10);
        x.keys(0, 0);
        same("none at all", x.guest(0, 1), 0);
        sentence("`guest`: 0 to 2");
        range("keys of guest", 0, 2, (one, guest) -> one.keys(guest, 1));
        sentence("`doors`: 0 to 1023");
        range("keys", 0, 1023, (one, doors) -> one.keys(0, doors));
        sentence("Returns the set of doors before; INVALID_ARGUMENT.");
        x = new CordDoors();
        same("none", x.keys(2, 1023), 0);
        same("all", x.keys(2, 512), 1023);
        same("9 alone", x.keys(2, 0), 512);
        same("none again", x.keys(2, 0), 0);
    }

    // ---- Promise 7

    private void draft() {
        section("Promise 7: draft");
        plain("`int draft(int draft)`: Changes the setting DRAFT.");
        sentence("`draft`: 1 to 10");
        range("draft", 1, 10, (x, draft) -> x.draft(draft));
        sentence("Returns the value before; INVALID_ARGUMENT.");
        CordDoors x = new CordDoors();
        same("the first one", x.draft(10), 3);
        same("the most", x.draft(1), 10);
        same("an error leaves it", x.draft(0), INVALID);
        same("the least", x.draft(1), 1);
    }

    // ---- Promise 8

    private void guestOpens() {
        section("Promise 8: guestOpens");
        plain("`int guestOpens(int guest, int door)`: A guest opens a door.");
        sentence("`guest`: 0 to 2");
        range("guestOpens as guest", 0, 2, (x, guest) -> x.guestOpens(guest, 0));
        sentence("`door`: 0 to 9");
        range("guestOpens", 0, 9, (x, door) -> x.guestOpens(0, door));
        sentence("Returns 10 and how many doors shut by that; the reason, 5, 6, 1 or 2, if it is refused; "
            + "INVALID_ARGUMENT.");
        CordDoors x = new CordDoors();
        same("5", x.guestOpens(2, 4), 5);
        same("6", x.guestOpens(2, 5), 6);
        x.keys(2, 1023);
        same("none shut", x.guestOpens(2, 5), 10);
        same("1", x.guestOpens(2, 5), 1);
        same("2", x.guestOpens(2, 6), 2);
        same("5 with all keys", x.guestOpens(2, 4), 5);
        same("refused ones", x.count(11), 5);
        x = allBetweenTwoHalls();
        openAll(x);
        x.shut(9);
        x.draft(1);
        x.keys(2, 512);
        same("nine", x.guestOpens(2, 9), 19);
    }

    // ---- Promise 9

    private void guestShuts() {
        section("Promise 9: guestShuts");
        plain("`int guestShuts(int guest, int door)`: A guest shuts a door.");
        sentence("`guest`: 0 to 2");
        range("guestShuts as guest", 0, 2, (x, guest) -> x.guestShuts(guest, 0));
        sentence("`door`: 0 to 9");
        range("guestShuts", 0, 9, (x, door) -> x.guestShuts(0, door));
        sentence("Returns 10; the reason, 5 or 3, if it is refused; INVALID_ARGUMENT.");
        CordDoors x = new CordDoors();
        x.open(4);
        same("5", x.guestShuts(1, 4), 5);
        same("3", x.guestShuts(1, 5), 3);
        x.join(0, 0, 3);
        x.open(0);
        same("without a key", x.guestShuts(1, 0), 10);
        same("3 again", x.guestShuts(1, 0), 3);
        same("refused ones", x.count(11), 3);
        same("by hand", x.count(8), 1);
    }

    // ---- Promise 10

    private void walk() {
        section("Promise 10: walk");
        plain("`int walk(int guest, int door)`: A guest walks through a door.");
        sentence("`guest`: 0 to 2");
        range("walk as guest", 0, 2, (x, guest) -> x.walk(guest, 0));
        sentence("`door`: 0 to 9");
        range("walk", 0, 9, (x, door) -> x.walk(0, door));
        sentence("Returns 10 and the hall in which the guest is then; the reason, 5 or 3, if it is refused; "
            + "INVALID_ARGUMENT.");
        CordDoors x = new CordDoors();
        same("5", x.walk(0, 4), 5);
        same("3", x.walk(0, 5), 3);
        x.open(5);
        same("to hall 5", x.walk(0, 5), 15);
        same("3 from there", x.walk(0, 4), 3);
        same("to hall 0", x.walk(0, 5), 10);
        same("two walks", x.guest(0, 3), 2);
        same("refused ones", x.count(11), 3);
        x.shut(5);
        x.join(5, 2, 3);
        x.open(5);
        same("5, it joins other halls now", x.walk(0, 5), 5);
    }

    // ---- Promise 11

    private void append() {
        section("Promise 11: append");
        plain("`int append(int code)`: Appends a character to the pad.");
        sentence("`code`: the character code, 33 to 126");
        range("append", 33, 126, (x, code) -> x.append(code));
        sentence("Returns the length of the pad then; INVALID_ARGUMENT; LIMIT_REACHED if it has 60 characters.");
        CordDoors x = new CordDoors();
        same("the first one", x.append(33), 1);
        for (int length = 2; length <= 59; length++) {
            x.append(126);
        }
        same("the 60th", x.append(126), 60);
        same("the 61st", x.append(126), LIMIT);
        same("an error is not appended", x.append(32), INVALID);
        x.clear();
        same("the first one again", x.append(33), 1);
    }

    // ---- Promise 12

    private void clear() {
        section("Promise 12: clear");
        sentence("`int clear()`: Empties the pad.");
        CordDoors x = new CordDoors();
        Setup.append(x, "o1;zz");
        x.clear();
        same("length", x.count(13), 0);
        same("no fault is left", x.fault(), 0);
        Setup.append(x, "c1");
        same("from the start", x.fault(), NONE);
        sentence("Returns the length that it had.");
        x = new CordDoors();
        same("empty", x.clear(), 0);
        x.append('o');
        same("one", x.clear(), 1);
        same("empty again", x.clear(), 0);
        for (int length = 1; length <= 61; length++) {
            x.append('x');
        }
        same("full", x.clear(), 60);
    }

    // ---- Promise 13

    private void fault() {
        section("Promise 13: fault");
        plain("`int fault()`: Returns the fault of the pad.");
        sentence("Returns the fault; NOT_FOUND if it has none.");
        CordDoors x = new CordDoors();
        same("empty", x.fault(), 0);
        x.append('o');
        same("not complete", x.fault(), 1);
        x.append('0');
        same("none", x.fault(), NONE);
        x.append(';');
        same("not complete again", x.fault(), 3);
        x.append('!');
        same("wrong", x.fault(), 3);
        x.append('o');
        same("wrong still", x.fault(), 3);
        same("nothing changes by looking", x.count(13), 5);
    }

    // ---- Promise 14

    private void run() {
        section("Promise 14: run");
        upToTheFirstRefused();
        oneChange();
        sentence("Returns how many are done; NOT_POSSIBLE if the pad has a fault.");
        same("none of one", Setup.run(new CordDoors(), "c0"), 0);
        same("one of one", Setup.run(new CordDoors(), "o0"), 1);
        same("all of twenty", Setup.run(new CordDoors(), fill("o0;c0", 10)), 20);
        CordDoors x = new CordDoors();
        x.open(5);
        same("all of twelve walks", Setup.run(x, fill("g2w5", 12)), 12);
        same("the last one of twenty is refused", Setup.run(new CordDoors(), fill("o0;c0", 9) + ";o0;o0"), 19);
        same("an empty pad", new CordDoors().run(), NOT_POSSIBLE);
        same("not complete", Setup.run(new CordDoors(), "o0;"), NOT_POSSIBLE);
        same("the last one is wrong", Setup.run(new CordDoors(), "o0;c0x"), NOT_POSSIBLE);
        same("a full pad, not complete", Setup.run(new CordDoors(), fill("o0;c0", 10) + ";"), NOT_POSSIBLE);
    }

    private static String fill(String part, int times) {
        return part + (";" + part).repeat(times - 1);
    }

    private void upToTheFirstRefused() {
        sentence("`int run()`: Runs the deeds of the pad, one after the other, up to the first one that is refused "
            + "(which is counted), and empties the pad.");
        CordDoors x = new CordDoors();
        same("the third one is refused", Setup.run(x, "o0;o5;o1;o9"), 2);
        same("none behind it is done", x.count(0), 33);
        same("it is counted", x.count(11), 1);
        same("the pad is empty", x.count(13), 0);
        same("the one behind it is not refused", Setup.run(x, "c5;c0"), 2);
        same("none more is counted", x.count(11), 1);
        same("the pad is empty after all, too", x.clear(), 0);
    }

    private void oneChange() {
        sentence("This is one change, also if none is done.");
        CordDoors x = new CordDoors();
        Setup.run(x, fill("o0;c0", 10));
        same("of twenty", x.count(14), 1);
        Setup.run(x, "c0");
        same("of none", x.count(14), 2);
        same("undo none", x.undo(), 1);
        same("refused ones", x.count(11), 0);
        same("undo twenty", x.undo(), 0);
        same("opened ones", x.count(7), 0);
    }

    // ---- Promise 15

    private void why() {
        section("Promise 15: why");
        theLatestCall();
        notUndone();
        whatItTells();
        sentence("Returns the number; INVALID_ARGUMENT; NOT_FOUND if there was no such call, "
            + "or all its deeds were done.");
        CordDoors x = new CordDoors();
        tells("no call", x, NONE, NONE, NONE);
        x.run();
        tells("a call with an error", x, NONE, NONE, NONE);
        Setup.run(x, "o9");
        tells("all done", x, NONE, NONE, NONE);
        same("below", x.why(-1), INVALID);
        same("above", x.why(3), INVALID);
    }

    private void tells(String when, CordDoors x, int reason, int number, int place) {
        same(when + ", why(0)", x.why(0), reason);
        same(when + ", why(1)", x.why(1), number);
        same(when + ", why(2)", x.why(2), place);
    }

    private void theLatestCall() {
        sentence("`int why(int what)`: Tells about the deed at which the latest call of run() that returned no error "
            + "stopped.");
        CordDoors x = new CordDoors();
        Setup.run(x, "o0;c0;c0");
        tells("stopped", x, 3, 2, 6);
        x.run();
        tells("an error leaves it", x, 3, 2, 6);
        x.open(0);
        x.open(0);
        tells("other refused deeds leave it", x, 3, 2, 6);
        x.clear();
        tells("an empty pad leaves it", x, 3, 2, 6);
        Setup.run(x, "o1");
        tells("the latest one", x, 2, 0, 0);
        Setup.run(x, "c0");
        tells("the latest one did all", x, NONE, NONE, NONE);
        Setup.run(x, "c0");
        tells("once more", x, 3, 0, 0);
    }

    private void notUndone() {
        sentence("(This is not a part of what is undone, or restored.)");
        CordDoors x = new CordDoors();
        x.save();
        Setup.run(x, "o0;o0");
        x.undo();
        tells("undone", x, 1, 1, 3);
        x.restore();
        tells("restored", x, 1, 1, 3);
        Setup.run(x, "o0");
        tells("all done", x, NONE, NONE, NONE);
        x.undo();
        tells("all done, undone", x, NONE, NONE, NONE);
    }

    private void whatItTells() {
        sentence("`what`: 0: the reason; 1: its number among the deeds, from 0; "
            + "2: the position of its first letter in the pad");
        range("why", 0, 2, (x, what) -> x.why(what));
        stop("c0", 3, 0, 0);
        stop("g0o0", 6, 0, 0);
        stop("o0;o0", 1, 1, 3);
        stop("o0;o1", 2, 1, 3);
        stop("o5;g2w5;g0w0;o0", 3, 2, 8);
        stop("o5;g2w5;g2w0", 5, 2, 8);
        stop(fill("o0;c0", 9) + ";o0;o0", 1, 19, 57);
        stop("o5;" + fill("g1w5;g1w5", 5) + ";g1w5;c0", 3, 12, 58);
    }

    private void stop(String text, int reason, int number, int place) {
        CordDoors x = new CordDoors();
        Setup.run(x, text);
        tells(text, x, reason, number, place);
    }
}
