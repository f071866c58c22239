/** The boundary cases that "What it is" and "Terms" (down to "Texts") name. */
final class TermsBounds extends Bounds {
    TermsBounds(Check check, Document document) {
        super(check, document);
    }

    void all() {
        whatItIs();
        terms();
        cords();
        deeds();
        whatCanBe();
        settings();
        texts();
    }

    // ---- What it is

    private void whatItIs() {
        section("What it is");
        plain("A loom of doors in which each opened shuts two by cords: doors between halls, two cords from each door "
            + "to others, doors that shut others when they open, and hold them shut, cords that are tight or slack, "
            + "drafts by which doors slam, servants who open and shut from afar, guests with keys who open, shut and "
            + "walk, reasons why a deed is refused, which doors can be open together, told in two ways, the fewest "
            + "deeds by which a guest comes to a hall, told in two ways, what opening a door would do, halls that hang "
            + "together, deeds that are read from texts with the places of faults and the reasons of stops, accounts "
            + "of doors that open and shut, undo, and a snapshot.");
        sentence("An object is used for at most 512 calls after it has been made; what later calls answer is free.");
        the512thCallOfWalks();
        the512thCallOfRefusals();
        the512thCallOfRuns();
    }

    private void the512thCallOfWalks() {
        CordDoors x = new CordDoors();
        x.open(5);
        for (int call = 2; call <= 511; call++) {
            same("walk(1, 5), call " + call, x.walk(1, 5), call % 2 == 0 ? 15 : 10);
        }
        same("guest(1, 3), call 512", x.guest(1, 3), 510);
    }

    private void the512thCallOfRefusals() {
        CordDoors x = new CordDoors();
        for (int call = 1; call <= 511; call++) {
            same("shut(9), call " + call, x.shut(9), 3);
        }
        same("count(11), call 512", x.count(11), 511);
        x = new CordDoors();
        for (int call = 1; call <= 512; call++) {
            same("open and shut, call " + call, call % 2 == 1 ? x.open(0) : x.shut(0), 10);
        }
    }

    private void the512thCallOfRuns() {
        CordDoors x = new CordDoors();
        String twenty = "o0;c0;o0;c0;o0;c0;o0;c0;o0;c0;o0;c0;o0;c0;o0;c0;o0;c0;o0;c0";
        for (int run = 1; run <= 8; run++) {
            Setup.append(x, twenty);
            same("run " + run, x.run(), 20);
        }
        for (int call = 8 * 60 + 1; call <= 511; call++) {
            x.why(0);
        }
        same("door(0, 8), call 512", x.door(0, 8), 80);
    }

    // ---- Terms

    private void terms() {
        section("Terms");
        plain("All numbers are whole numbers, but where a double is told.");
        setsAsBits();
        plain("Halls, doors");
        sixHallsAndTenDoors();
        hallsOfADoor();
        allShutAtFirst();
        leadsIfOpen();
    }

    private void setsAsBits() {
        sentence("Sets of doors are told as bits: the door d counts 2 to the power of d.");
        CordDoors x = allBetweenTwoHalls();
        same("the empty set", x.count(0), 0);
        int[] due = {1, 3, 7, 15, 31, 63, 127, 255, 511, 1023};
        for (int door = 0; door < 10; door++) {
            x.open(door);
            same("with door " + door, x.count(0), due[door]);
        }
        for (int door = 0; door < 9; door++) {
            x.shut(door);
        }
        same("door 9 alone", x.count(0), 512);
    }

    private void sixHallsAndTenDoors() {
        sentence("There are 6 halls, 0 to 5, and 10 doors, 0 to 9.");
        CordDoors x = new CordDoors();
        same("hall(-1, 3)", x.hall(-1, 3), INVALID);
        same("hall(0, 3)", x.hall(0, 3), 1);
        same("hall(5, 3)", x.hall(5, 3), 1);
        same("hall(6, 3)", x.hall(6, 3), INVALID);
        same("open(-1)", x.open(-1), INVALID);
        same("open(0)", x.open(0), 10);
        same("open(9)", x.open(9), 11);
        same("open(10)", x.open(10), INVALID);
    }

    private void hallsOfADoor() {
        sentence("A door joins two halls, which are not the same; "
            + "at first the door d joins the halls d modulo 6 and (d + 1) modulo 6.");
        CordDoors x = new CordDoors();
        int[] lesser = {0, 1, 2, 3, 4, 0, 0, 1, 2, 3};
        int[] greater = {1, 2, 3, 4, 5, 5, 1, 2, 3, 4};
        for (int door = 0; door < 10; door++) {
            same("door(" + door + ", 1)", x.door(door, 1), lesser[door]);
            same("door(" + door + ", 2)", x.door(door, 2), greater[door]);
        }
        same("hall 0 twice", x.join(5, 0, 0), INVALID);
        same("hall 5 twice", x.join(5, 5, 5), INVALID);
        same("5 joins 0 still", x.door(5, 1), 0);
        same("and 5", x.door(5, 2), 5);
    }

    private void allShutAtFirst() {
        sentence("A door is open or shut; all are shut at first.");
        CordDoors x = new CordDoors();
        for (int door = 0; door < 10; door++) {
            same("door(" + door + ", 0)", x.door(door, 0), 0);
            same("shut(" + door + ")", x.shut(door), 3);
        }
        same("none is open", x.count(1), 0);
    }

    private void leadsIfOpen() {
        sentence("A door leads from the one of its halls to the other one, if it is open.");
        CordDoors x = new CordDoors();
        same("a shut one", x.walk(0, 6), 3);
        x.open(6);
        same("to the greater one", x.walk(0, 6), 11);
        same("to the lesser one", x.walk(0, 6), 10);
        same("to the greater one again", x.walk(0, 6), 11);
        x.shut(6);
        same("a shut one again", x.walk(0, 6), 3);
        same("the guest stays", x.guest(0, 0), 1);
    }

    // ---- Cords

    private void cords() {
        section("Cords");
        twoCords();
        cordsAtFirst();
        tightOrSlack();
        heldAndShut();
    }

    private void twoCords() {
        sentence("A door has two cords, each to another door, or to none; "
            + "both never go to the same door, and none to the door itself.");
        CordDoors x = new CordDoors();
        same("the second one where the first one goes", x.cord(0, true, 1), INVALID);
        same("the first one where the second one goes", x.cord(0, false, 3), INVALID);
        same("the first one to the door itself", x.cord(0, false, 0), INVALID);
        same("the second one to the door itself", x.cord(9, true, 9), INVALID);
        same("where it goes already", x.cord(0, false, 1), 10);
        same("the first one to none", x.cord(0, false, NO_DOOR), 10);
        same("the second one to none, too", x.cord(0, true, NO_DOOR), 10);
        same("the first one goes to none", x.door(0, 3), NONE);
        same("the second one goes to none", x.door(0, 4), NONE);
        same("none once more", x.cord(0, true, NO_DOOR), 10);
        same("crossed, the second one", x.cord(0, true, 1), 10);
        same("crossed, the first one", x.cord(0, false, 3), 10);
    }

    private void cordsAtFirst() {
        sentence("At first the door d has its first cord to the door (d + 1) modulo 10, "
            + "and its second one to the door (d + 3) modulo 10.");
        CordDoors x = new CordDoors();
        int[] first = {1, 2, 3, 4, 5, 6, 7, 8, 9, 0};
        int[] second = {3, 4, 5, 6, 7, 8, 9, 0, 1, 2};
        for (int door = 0; door < 10; door++) {
            same("door(" + door + ", 3)", x.door(door, 3), first[door]);
            same("door(" + door + ", 4)", x.door(door, 4), second[door]);
        }
    }

    private void tightOrSlack() {
        sentence("A cord of an open door is tight; a cord of a shut one is slack.");
        CordDoors x = new CordDoors();
        tightAndSlack("none open", x, 0, 20);
        x.open(9);
        tightAndSlack("one open", x, 2, 18);
        x.cord(9, false, NO_DOOR);
        tightAndSlack("a cord to none is neither, open", x, 1, 18);
        x.cord(8, false, NO_DOOR);
        tightAndSlack("a cord to none is neither, shut", x, 1, 17);
        x.shut(9);
        tightAndSlack("shut again", x, 0, 18);
        x = allBetweenTwoHalls();
        tightAndSlack("no cords", x, 0, 0);
        x.cord(3, true, 4);
        x.open(3);
        tightAndSlack("none slack", x, 1, 0);
    }

    private void tightAndSlack(String when, CordDoors x, int tight, int slack) {
        same(when + ", tight", x.count(2), tight);
        same(when + ", slack", x.count(3), slack);
    }

    private void heldAndShut() {
        sentence("A door to which a tight cord goes is held; it is shut.");
        CordDoors x = new CordDoors();
        same("a slack cord does not hold", x.door(0, 5), 0);
        x.open(0);
        same("9 would shut it", x.open(9), 11);
        same("it is held", x.door(0, 5), 1);
        same("and shut", x.door(0, 0), 0);
        same("the other one is held", x.door(2, 5), 1);
        same("9 is not", x.door(9, 5), 0);
        x.cord(9, false, 5);
        same("a tight cord laid anew holds at once", x.door(5, 5), 1);
        same("and lets go at once", x.door(0, 5), 0);
        x.shut(9);
        same("a slack cord lets go", x.door(2, 5), 0);
    }

    // ---- Deeds

    private void deeds() {
        section("Deeds");
        firstReasonToOpen();
        cordsShutThoseOpen();
        draftsByRisingHalls();
        asLongAsMoreThanDraft();
        lowestNumberShuts();
        openedOneAside();
        refusedToShut();
        refusedCord();
        plain("Guests, servants");
        threeGuests();
        reasonsOfAGuest();
        reasonsOfAWalk();
        reasonsOfAServant();
    }

    private void firstReasonToOpen() {
        sentence("To open a door is refused for the first of these reasons that is so: 1: it is open; 2: it is held.");
        CordDoors x = new CordDoors();
        same("neither open nor held", x.open(4), 10);
        same("open", x.open(4), 1);
        same("held by the first cord", x.open(5), 2);
        same("held by the second cord", x.open(7), 2);
        same("nothing opened by that", x.count(0), 16);
        same("one opened", x.count(7), 1);
        same("three are refused", x.count(11), 3);
        x.shut(4);
        same("held no more", x.open(7), 10);
    }

    private void cordsShutThoseOpen() {
        sentence("Otherwise it opens; then the doors to which its cords go shut, if they are open;");
        CordDoors x = new CordDoors();
        same("both are shut", x.open(1), 10);
        same("none shut by cords", x.count(9), 0);
        x = new CordDoors();
        x.open(4);
        same("the second one is open", x.open(1), 11);
        x = new CordDoors();
        x.open(2);
        same("the first one is open", x.open(1), 11);
        x = new CordDoors();
        x.open(2);
        x.open(4);
        same("both are open", x.open(1), 12);
        same("1 alone is open", x.count(0), 2);
        same("2 holds 3 no more", x.door(3, 5), 0);
        x.cord(1, false, NO_DOOR);
        x.cord(1, true, NO_DOOR);
        x.shut(1);
        x.open(2);
        x.open(4);
        same("cords to none shut none", x.open(1), 10);
        same("three are open", x.count(1), 3);
    }

    private void draftsByRisingHalls() {
        sentence("then the drafts blow: for each hall, by rising numbers,");
        CordDoors x = threeInAChain();
        same("hall 0 is ahead: hall 1 has one left then", x.open(9), 11);
        same("1 slammed", x.count(0), 1 + 4 + 512);
        x = Setup.withoutCords();
        x.open(0);
        x.open(5);
        x.draft(1);
        same("hall 0, far from the door", x.open(2), 11);
        same("0 slammed", x.count(0), 4 + 32);
        x = Setup.withoutCords();
        x.open(4);
        x.open(5);
        x.draft(1);
        same("hall 5, far from the door", x.open(2), 11);
        same("4 slammed", x.count(0), 4 + 32);
    }

    /** 0 joins halls 1 and 3, 1 joins 0 and 1, 2 joins 0 and 2, all open; 9 joins 4 and 5; DRAFT is 1. */
    private static CordDoors threeInAChain() {
        CordDoors x = Setup.withoutCords();
        x.join(1, 0, 1);
        x.join(2, 0, 2);
        x.join(0, 1, 3);
        x.join(9, 4, 5);
        x.open(0);
        x.open(1);
        x.open(2);
        x.draft(1);
        return x;
    }

    private void asLongAsMoreThanDraft() {
        sentence("as long as more than DRAFT open doors join it,");
        for (int draft = 1; draft <= 10; draft++) {
            CordDoors x = allBetweenTwoHalls();
            x.draft(draft);
            for (int door = 0; door < 10; door++) {
                same("DRAFT " + draft + ", open(" + door + ")", x.open(door), door < draft ? 10 : 11);
            }
            same("DRAFT " + draft + ", open ones", x.count(1), draft);
            same("DRAFT " + draft + ", slammed ones", x.count(10), 10 - draft);
        }
        for (int draft = 1; draft <= 10; draft++) {
            CordDoors x = allBetweenTwoHalls();
            openAll(x);
            x.shut(9);
            x.draft(draft);
            same("DRAFT " + draft + ", nine are open", x.open(9), 10 + 10 - draft);
            same("DRAFT " + draft + ", left", x.count(1), draft);
        }
    }

    private void lowestNumberShuts() {
        sentence("the open door of that hall with the lowest number shuts,");
        CordDoors x = allBetweenTwoHalls();
        x.draft(3);
        x.join(1, 2, 3);
        x.open(1);
        x.open(7);
        x.open(4);
        x.open(9);
        same("a fourth one", x.open(8), 11);
        same("4 slammed, 1 is in another hall", x.count(0), 2 + 128 + 256 + 512);
        same("4 shut once", x.door(4, 9), 1);
        same("1 never", x.door(1, 9), 0);
    }

    private void openedOneAside() {
        sentence("the door that was opened left aside (it is never shut by that).");
        CordDoors x = allBetweenTwoHalls();
        openAll(x);
        x.shut(0);
        x.draft(1);
        same("0 is the lowest one", x.open(0), 19);
        same("0 alone stays", x.count(0), 1);
        same("the highest one", x.open(9), 11);
        same("9 alone stays", x.count(0), 512);
        x = new CordDoors();
        x.draft(1);
        same("one alone", x.open(0), 10);
        same("stays", x.count(0), 1);
    }

    private void refusedToShut() {
        sentence("To shut a door is refused for the reason 3: it is shut.");
        CordDoors x = new CordDoors();
        same("never opened", x.shut(1), 3);
        x.open(1);
        same("open", x.shut(1), 10);
        same("shut by a servant", x.shut(1), 3);
        x.open(1);
        x.open(0);
        same("shut by a cord", x.shut(1), 3);
        x.draft(1);
        x.cord(5, false, NO_DOOR);
        x.open(5);
        same("shut by a draft", x.shut(0), 3);
        same("refused ones", x.count(11), 4);
    }

    private void refusedCord() {
        plain("To lay a cord anew: the door gets another door, or none, for one of its cords.");
        sentence("It is refused for the reason 4: the door is open, and the other one is open, too.");
        CordDoors x = new CordDoors();
        same("both shut", x.cord(0, false, 5), 10);
        x.cord(0, false, NO_DOOR);
        x.open(0);
        same("the door is open", x.cord(0, false, 5), 10);
        x.cord(0, false, NO_DOOR);
        x.open(5);
        same("both open", x.cord(0, false, 5), 4);
        same("it goes to none still", x.door(0, 3), NONE);
        same("both are open still", x.count(0), 33);
        same("it is counted", x.count(11), 1);
        same("none for an open one's cord", x.cord(0, true, NO_DOOR), 10);
        same("both open, the other way", x.cord(5, true, 0), 4);
        x.shut(0);
        same("the other one is shut", x.cord(5, true, 0), 10);
        x = new CordDoors();
        x.open(5);
        same("the other one is open", x.cord(0, false, 5), 10);
    }

    private void threeGuests() {
        sentence("There are 3 guests, 0 to 2; a guest is in a hall, 0 at first, "
            + "and has the keys of a set of doors, none at first.");
        CordDoors x = new CordDoors();
        same("guest(-1, 0)", x.guest(-1, 0), INVALID);
        same("guest(3, 0)", x.guest(3, 0), INVALID);
        for (int guest = 0; guest < 3; guest++) {
            same("the hall of " + guest, x.guest(guest, 0), 0);
            same("the keys of " + guest, x.guest(guest, 1), 0);
            same("no key of 0 for " + guest, x.guestOpens(guest, 0), 6);
        }
        same("all three in hall 0", x.hall(0, 2), 3);
    }

    private void reasonsOfAGuest() {
        sentence("A guest opens a door, and shuts one: refused for the reason 5, if the door does not join the hall in "
            + "which the guest is, then, to open, for the reason 6, if the guest has no key of it, "
            + "then for the reasons of the deed.");
        CordDoors x = new CordDoors();
        x.open(2);
        same("5 ahead of 6 and 1", x.guestOpens(0, 2), 5);
        same("5 ahead of 6 and 2", x.guestOpens(0, 3), 5);
        same("5 ahead of 3", x.guestShuts(0, 1), 5);
        same("5, to shut an open one", x.guestShuts(0, 2), 5);
        x.shut(2);
        x.open(5);
        same("6 ahead of 1", x.guestOpens(0, 5), 6);
        same("6 ahead of 2", x.guestOpens(0, 6), 6);
        same("6, neither open nor held", x.guestOpens(0, 0), 6);
        x.keys(0, 32 + 64 + 1);
        same("1", x.guestOpens(0, 5), 1);
        same("2", x.guestOpens(0, 6), 2);
        same("none", x.guestOpens(0, 0), 10);
        x.keys(0, 0);
        same("no key to shut", x.guestShuts(0, 0), 10);
        same("3", x.guestShuts(0, 0), 3);
    }

    private void reasonsOfAWalk() {
        sentence("A guest walks through a door: refused for the reason 5, as before, then for the reason 3, "
            + "if the door is shut; otherwise the guest is in the other hall of it.");
        CordDoors x = new CordDoors();
        same("5 ahead of 3", x.walk(0, 3), 5);
        x.open(3);
        same("5", x.walk(0, 3), 5);
        same("3", x.walk(0, 5), 3);
        x.open(5);
        same("no key is wanted", x.walk(0, 5), 15);
        same("hall 5", x.guest(0, 0), 5);
        same("5, it is in 5 now", x.walk(0, 6), 5);
        same("back", x.walk(0, 5), 10);
    }

    private void reasonsOfAServant() {
        sentence("A servant opens and shuts doors from afar: for the reasons of the deed alone.");
        CordDoors x = new CordDoors();
        same("no guest is near, none has a key", x.open(3), 10);
        same("1", x.open(3), 1);
        same("2", x.open(4), 2);
        same("no guest is near", x.shut(3), 10);
        same("3", x.shut(3), 3);
    }

    // ---- What can be

    private void whatCanBe() {
        section("What can be");
        openTogether();
        wayToAHall();
        hangTogether();
    }

    private void openTogether() {
        sentence("Doors can be open together, if none of them has a cord to another one of them, "
            + "and no hall has more than DRAFT of them.");
        CordDoors x = new CordDoors();
        same("no doors", x.can(0), 1);
        same("a cord from 9 to 0", x.can(513), 0);
        x.cord(9, false, NO_DOOR);
        same("no cord between 9 and 0", x.can(513), 1);
        for (int draft = 1; draft <= 10; draft++) {
            x = allBetweenTwoHalls();
            x.draft(draft);
            same("as many as DRAFT " + draft, x.can((1 << draft) - 1), 1);
            if (draft < 10) {
                same("one more than DRAFT " + draft, x.can((2 << draft) - 1), 0);
            }
        }
    }

    private void wayToAHall() {
        sentence("A guest's way to a hall are deeds of this guest alone (opening, shutting, walking), "
            + "none of them refused; the fewest deeds are counted.");
        CordDoors x = new CordDoors();
        ways("no deeds, to its own hall", x, 0, 0, 0);
        ways("no key, all shut", x, 0, 1, NONE);
        x.keys(1, 1023);
        ways("another one's keys", x, 0, 1, NONE);
        x.keys(0, 2);
        ways("a key of a door further on", x, 0, 2, NONE);
        x.open(0);
        ways("a walk", x, 0, 1, 1);
        ways("shutting the door behind lets the next one go", x, 0, 2, 4);
        x = new CordDoors();
        x.keys(0, 2);
        x.join(1, 0, 4);
        ways("open it and walk", x, 0, 4, 2);
        x.open(8);
        ways("held by a door that the guest never comes to", x, 0, 4, NONE);
    }

    private void ways(String when, CordDoors x, int guest, int hall, int due) {
        same(when + ", from now on", x.deeds(guest, hall, 0), due);
        same(when + ", from the hall back", x.deeds(guest, hall, 1), due);
    }

    private void hangTogether() {
        sentence("Halls hang together, if one can come from the one to the other through open doors.");
        CordDoors x = Setup.withoutCords();
        same("none open: a hall with itself", x.hall(0, 3), 1);
        same("no pairs", x.count(5), 0);
        x.open(5);
        same("0 and 5", x.hall(5, 3), 2);
        x.open(0);
        x.open(6);
        same("two doors between 0 and 1 are of one account", x.hall(1, 3), 3);
        x.open(1);
        x.open(2);
        x.open(3);
        same("a chain of all", x.hall(4, 3), 6);
        same("all pairs", x.count(5), 15);
        x.open(4);
        same("a ring", x.hall(4, 3), 6);
        same("all pairs of a ring", x.count(5), 15);
    }

    // ---- Settings

    private void settings() {
        section("Settings");
        draftBounds();
        draftShutsNone();
    }

    private void draftBounds() {
        sentence("DRAFT, 1 to 10, at first 3.");
        CordDoors x = new CordDoors();
        same("at first", x.count(12), 3);
        same("too small", x.draft(0), INVALID);
        same("too large", x.draft(11), INVALID);
        same("least", x.draft(1), 3);
        same("most", x.draft(10), 1);
        same("as set", x.count(12), 10);
    }

    private void draftShutsNone() {
        sentence("(When it is set, no door shuts by that; drafts blow only when a door is opened.)");
        CordDoors x = allBetweenTwoHalls();
        for (int door = 0; door < 6; door++) {
            x.open(door);
        }
        x.draft(1);
        same("set", x.count(0), 63);
        x.walk(0, 0);
        same("a walk", x.count(0), 63);
        same("an open one", x.open(0), 1);
        same("refused", x.count(0), 63);
        x.keys(0, 1023);
        x.cord(9, false, 8);
        x.join(9, 2, 3);
        same("keys, cords, halls", x.count(0), 63);
        x.shut(0);
        same("shutting one", x.count(0), 62);
        x.guestShuts(0, 1);
        same("a guest's shutting one", x.count(0), 60);
        same("opening one far away", x.open(9), 13);
        same("one is left in halls 0 and 1", x.count(0), 512 + 32);
    }

    // ---- Texts

    private void texts() {
        section("Texts");
        padBounds();
        partsOfDeeds();
        digitsAndGuests();
        firstWrongOne();
        notComplete();
    }

    private void padBounds() {
        sentence("There is a pad of at most 60 characters, initially empty.");
        CordDoors x = new CordDoors();
        same("empty", x.count(13), 0);
        for (int length = 1; length <= 60; length++) {
            same("character " + length, x.append('z'), length);
        }
        same("character 61", x.append('z'), LIMIT);
        same("full", x.count(13), 60);
    }

    private void partsOfDeeds() {
        sentence("Deeds are one or more parts with \";\" between two: \"o\" and a door (a servant opens it); \"c\" and a "
            + "door (a servant shuts it); \"g\", a guest, then \"o\" (opens), \"c\" (shuts) or \"w\" (walks), and a door.");
        same("no part", Setup.faultOf(""), 0);
        same("one part", Setup.faultOf("o0"), NONE);
        same("one part of a guest", Setup.faultOf("g0w0"), NONE);
        same("two parts", Setup.faultOf("c9;g2c9"), NONE);
        same("two without \";\"", Setup.faultOf("c9g2c9"), 2);
        same("\";\" ahead", Setup.faultOf(";o0"), 0);
        same("\";\" behind", Setup.faultOf("o0;"), 3);
        same("\";\" twice", Setup.faultOf("o0;;o0"), 3);
        same("a servant walks", Setup.faultOf("w0"), 0);
        same("no letter of a guest", Setup.faultOf("g00"), 2);
        same("a guest twice", Setup.faultOf("g0g0o0"), 2);
        String eleven = "g0w0;g0w0;g0w0;g0w0;g0w0;g0w0;g0w0;g0w0;g0w0;g0w0;g0w0";
        same("twelve parts of guests", Setup.faultOf(eleven + ";g0o9"), NONE);
        String nineteen = "o1;o1;o1;o1;o1;o1;o1;o1;o1;o1;o1;o1;o1;o1;o1;o1;o1;o1;o1";
        same("twenty parts of servants", Setup.faultOf(nineteen + ";c9"), NONE);
    }

    private void digitsAndGuests() {
        sentence("Doors are digits, guests are 0 to 2.");
        for (int digit = 0; digit <= 9; digit++) {
            same("door " + digit, Setup.faultOf("o" + digit), NONE);
            same("guest " + digit, Setup.faultOf("g" + digit + "o0"), digit <= 2 ? NONE : 1);
        }
        same("ahead of the digit 0", Setup.faultOf("o/"), 1);
        same("behind the digit 9", Setup.faultOf("o:"), 1);
        same("ahead of the guest 0", Setup.faultOf("g/o0"), 1);
        same("a door of two digits", Setup.faultOf("o10"), 2);
        same("a guest of two digits", Setup.faultOf("g10o0"), 2);
    }

    private void firstWrongOne() {
        sentence("The fault of the pad is the position, from 0, of the first character that is wrong: "
            + "no deeds, however many, begin with the characters before it and this character;");
        same("the first one", Setup.faultOf("!"), 0);
        same("of two wrong ones the first one", Setup.faultOf("ox;y"), 1);
        same("far behind", Setup.faultOf("o0;g2w9;c!"), 9);
        String sixty = "o0;o0;o0;o0;o0;o0;o0;o0;o0;o0;o0;o0;o0;o0;o0;o0;o0;o0;o0;o0;";
        same("however many: a full pad that may go on is not wrong", Setup.faultOf(sixty), 60);
        same("the last one of a full pad", Setup.faultOf(sixty.substring(0, 59) + "o"), 59);
        same("the first one of a full pad", Setup.faultOf("x" + sixty.substring(1)), 0);
    }

    private void notComplete() {
        sentence("if there is none, and the pad is not complete (also if it is empty), the length of the pad.");
        String part = "g1w7;c3";
        int[] due = {0, 1, 2, 3, NONE, 5, 6, NONE};
        for (int length = 0; length <= part.length(); length++) {
            String text = part.substring(0, length);
            same("fault of " + text, Setup.faultOf(text), due[length]);
        }
        CordDoors x = new CordDoors();
        Setup.append(x, "xx");
        x.clear();
        same("emptied", x.fault(), 0);
    }
}
