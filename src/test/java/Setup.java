/** Ways to bring a new object where a test wants it. */
final class Setup {
    static final int[] OUT_OF_DOORS = {-1, 10, 11, 31, 32, 33, -31, -32, 1000, Integer.MIN_VALUE, Integer.MAX_VALUE};
    static final int[] OUT_OF_HALLS = {-1, 6, 7, 31, 32, 33, -32, 1000, Integer.MIN_VALUE, Integer.MAX_VALUE};
    static final int[] OUT_OF_GUESTS = {-1, 3, 4, 31, 32, 33, -32, 1000, Integer.MIN_VALUE, Integer.MAX_VALUE};
    static final int[] OUT_OF_SETS = {-1, -1023, -1024, 1024, 1025, 2047, Integer.MIN_VALUE, Integer.MAX_VALUE};

    private Setup() {
    }

    static void clearCords(CordDoors doors) {
        for (int door = 0; door < 10; door++) {
            doors.cord(door, false, 10);
            doors.cord(door, true, 10);
        }
    }

    static CordDoors withoutCords() {
        CordDoors doors = new CordDoors();
        clearCords(doors);
        return doors;
    }

    static void append(CordDoors doors, String text) {
        for (int place = 0; place < text.length(); place++) {
            doors.append(text.charAt(place));
        }
    }

    static int faultOf(String text) {
        CordDoors doors = new CordDoors();
        append(doors, text);
        return doors.fault();
    }

    static int run(CordDoors doors, String text) {
        doors.clear();
        append(doors, text);
        return doors.run();
    }

    /** All looks at an object but those at the pad, the history and why(), as one text. */
    static String look(CordDoors doors) {
        StringBuilder text = new StringBuilder();
        for (int what = 0; what <= 12; what++) {
            text.append(doors.count(what)).append(' ');
        }
        for (int door = 0; door < 10; door++) {
            for (int what = 0; what <= 9; what++) {
                text.append(doors.door(door, what)).append(' ');
            }
        }
        for (int hall = 0; hall < 6; hall++) {
            for (int what = 0; what <= 3; what++) {
                text.append(doors.hall(hall, what)).append(' ');
            }
        }
        for (int guest = 0; guest < 3; guest++) {
            for (int what = 0; what <= 3; what++) {
                text.append(doors.guest(guest, what)).append(' ');
            }
        }
        return text.toString();
    }
}
