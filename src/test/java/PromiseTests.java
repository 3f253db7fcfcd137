/** For each promise of the document the usual inputs, the edges it names, and wrong inputs; answers worked out by hand. */
public final class PromiseTests {
    private static final int NONE = SleeperBerths.NONE;

    private static int wrong = 0;
    private static String promise = "";

    private interface Call {
        long answer();
    }

    public static void main(String[] args) {
        newObject();
        bookTakesTheCalmestBerth();
        bookChangesTheBerth();
        bookThrows();
        cancel();
        place();
        placeThrows();
        rebook();
        rebookThrows();
        cut();
        set();
        append();
        clearBuffer();
        firstError();
        bookAll();
        bookAllLeavesOut();
        bookAllThrows();
        undo();
        undoBringsBackAll();
        holder();
        passenger();
        count();
        free();
        goesToAndSetting();
        ifBooked();
        whyNot();
        farthest();
        fullness();
        digest();
        looksChangeNothing();
        System.out.println(wrong == 0 ? "all promises hold" : wrong + " answers break a promise");
        if (wrong != 0) {
            System.exit(1);
        }
    }

    // ---- how a test tells

    private static void due(String what, long got, long want) {
        if (got != want) {
            wrong++;
            System.out.println(promise + ": " + what + " answered " + got + ", due is " + want);
        }
    }

    /** The call throws just this exception, and changes nothing. */
    private static void dueThrow(String what, SleeperBerths x, Class<?> want, Call call) {
        long before = x.digest();
        String got;
        try {
            got = "answered " + call.answer();
        } catch (RuntimeException e) {
            got = e.getClass() == want ? "" : "threw " + e.getClass().getSimpleName();
        }
        if (!got.isEmpty()) {
            wrong++;
            System.out.println(promise + ": " + what + " " + got + ", due is a throw of " + want.getSimpleName());
        }
        due("digest() behind the throw of " + what, x.digest(), before);
    }

    private static final Class<?> ARGUMENT = IllegalArgumentException.class;
    private static final Class<?> STATE = IllegalStateException.class;
    private static final Class<?> BOUNDS = IndexOutOfBoundsException.class;

    // ---- states to begin with

    private static int seat(SleeperBerths x, int from, int to, int berth) {
        int number = x.book(from, to, false);
        x.place(number, berth);
        return number;
    }

    private static void write(SleeperBerths x, String text) {
        for (int i = 0; i < text.length(); i++) {
            x.append(text.charAt(i));
        }
    }

    private static void bookTimes(SleeperBerths x, int times, int from, int to) {
        for (int i = 0; i < times; i++) {
            x.book(from, to, true);
        }
    }

    /**
     * From station 1 on only the berths 0 and 5 are left: 0 up to station 4, 5 from station 3 on;
     * the neighbour of 0 stays (passenger 1), that of 5 changes at station 4 (passengers 5 and 6).
     */
    private static SleeperBerths twoHalves() {
        SleeperBerths x = new SleeperBerths();
        seat(x, 4, 9, 0);
        seat(x, 1, 9, 1);
        seat(x, 1, 9, 2);
        seat(x, 1, 9, 3);
        seat(x, 1, 3, 5);
        seat(x, 1, 4, 4);
        seat(x, 4, 9, 4);
        x.cut(1, 1);
        x.cut(2, 1);
        return x;
    }

    private static SleeperBerths withFortyPassengers() {
        SleeperBerths x = new SleeperBerths();
        bookTimes(x, 18, 0, 1);
        bookTimes(x, 18, 1, 2);
        bookTimes(x, 4, 2, 3);
        return x;
    }

    // ---- promise 1

    private static void newObject() {
        promise = "1";
        SleeperBerths x = new SleeperBerths();
        due("NONE", NONE, -1);
        for (int what = 0; what <= 8; what++) {
            due("count(" + what + ")", x.count(what), 0);
        }
        for (int berth = 0; berth < 18; berth++) {
            for (int leg = 0; leg < 9; leg++) {
                due("holder", x.holder(berth, leg), NONE);
            }
        }
        for (int coach = 0; coach < 3; coach++) {
            due("goesTo", x.goesTo(coach), 9);
        }
        due("setting(0)", x.setting(0), 3);
        due("setting(1)", x.setting(1), 6);
        due("setting(2)", x.setting(2), 10);
        due("clearBuffer()", x.clearBuffer(), 0);
        due("passenger(0, 0)", x.passenger(0, 0), NONE);
    }

    // ---- promise 2

    private static void bookTakesTheCalmestBerth() {
        promise = "2";
        SleeperBerths x = new SleeperBerths();
        due("book(0, 5, true)", x.book(0, 5, true), 0);
        due("it has berth 0", x.passenger(0, 4), 0);
        due("book(0, 9, true)", x.book(0, 9, true), 1);
        due("not berth 1, where the neighbour leaves at 5", x.passenger(1, 4), 2);
        due("book(0, 9, false)", x.book(0, 9, false), 2);
        due("beside one who stays", x.passenger(2, 4), 3);
        due("book(5, 9, true)", x.book(5, 9, true), 3);
        due("the lowest of several", x.passenger(3, 4), 0);
        due("book(0, 5, true)", x.book(0, 5, true), 4);
        due("nobody comes or goes between", x.passenger(4, 4), 1);
        due("holder on the last leg", x.holder(1, 4), 4);
        due("holder behind the way", x.holder(1, 5), NONE);
        due("bookings", x.count(6), 5);
        due("saved states", x.count(8), 5);

        x = new SleeperBerths();
        x.cut(0, 4);
        x.cut(1, 4);
        x.book(0, 5, false);
        due("a coach that goes so far", x.passenger(0, 4), 12);
        x.book(0, 4, false);
        due("as far as the station where it is cut off", x.passenger(1, 4), 0);

        x = new SleeperBerths();
        x.cut(1, 1);
        x.cut(2, 1);
        for (int berth = 1; berth < 6; berth += 2) {
            seat(x, 1, 4, berth);
            seat(x, 4, 7, berth);
        }
        seat(x, 1, 9, 0);
        x.cancel(0);
        x.book(1, 9, true);
        due("woken once at 4 or 7, but beside berth 1 only at 7 and 4", x.passenger(6, 4), 2);
        due("woken twice", x.passenger(6, 7), 2);
    }

    private static void bookChangesTheBerth() {
        promise = "2";
        SleeperBerths x = twoHalves();
        SleeperBerths night = x;
        due("whyNot(1, 9)", x.whyNot(1, 9), 3);
        dueThrow("night at 3 and 4", x, STATE, () -> night.book(1, 9, false));
        dueThrow("paid through", x, STATE, () -> night.book(1, 9, true));
        x.set(0, 4);
        due("station 4 is night still", x.book(1, 9, false), 7);
        due("changes at 3", x.passenger(7, 6), 3);
        due("woken at 4, where the neighbour changes", x.passenger(7, 7), 1);
        due("tip 10 - 1 - 3", x.passenger(7, 8), 6);
        x.undo();
        x.set(0, 5);
        due("number of an undone booking comes again", x.book(1, 9, false), 7);
        due("first berth", x.passenger(7, 4), 0);
        due("last berth", x.passenger(7, 5), 5);
        due("changes where it is woken least", x.passenger(7, 6), 4);
        due("not woken where the berth is changed", x.passenger(7, 7), 0);
        due("holder(0, 3)", x.holder(0, 3), 7);
        due("holder(0, 4)", x.holder(0, 4), 0);
        due("holder(5, 3)", x.holder(5, 3), NONE);
        due("holder(5, 4)", x.holder(5, 4), 7);
        due("those who change", x.count(2), 1);

        x = twoHalves();
        x.set(0, 0);
        x.set(1, 2);
        x.rebook(6);
        x.cancel(5);
        x.book(1, 9, false);
        due("nobody beside up to 4", x.passenger(6, 6), 4);
        x.undo();
        x.cancel(6);
        x.book(1, 9, false);
        due("one berth is left on the whole way", x.passenger(5, 6), NONE);
        due("it is 4", x.passenger(5, 4), 4);
        x = twoHalves();
        x.set(0, 9);
        x.set(1, 0);
        x.cancel(6);
        x.cancel(1);
        x.cancel(2);
        x.book(1, 9, false);
        due("berth 2 beside one who stays is the lowest calm one", x.passenger(4, 4), 2);

        lowestBerthsOfAChange();
    }

    private static void lowestBerthsOfAChange() {
        SleeperBerths x = new SleeperBerths();
        x.set(1, 0);
        for (int berth = 0; berth < 18; berth++) {
            if (berth % 2 == 0) {
                seat(x, 0, 5, berth);
            } else {
                seat(x, 4, 9, berth);
            }
        }
        // an odd berth can be had up to 4 alone, an even one from 5 on
        due("no two berths meet", x.ifBooked(0, 9, false, 0), 0);
        x.cancel(2);
        x.cancel(4);
        due("berth 2 can be had throughout", x.ifBooked(0, 9, false, 0), 1);
        seat(x, 0, 1, 2);
        seat(x, 0, 1, 4);
        due("from 2 or 4 on, at 1 to 4", x.ifBooked(0, 9, false, 0), 2);
        due("at 4 the one beside 2 comes, who would wake", x.ifBooked(0, 9, false, 2), 4);
        due("not woken", x.ifBooked(0, 9, false, 3), 0);
        x.cancel(3);
        seat(x, 0, 9, 3);
        due("the lowest station, as nobody comes beside 2 any more", x.ifBooked(0, 9, false, 2), 1);
        due("the lowest first berth", x.ifBooked(0, 9, false, 1), 1);
        due("not woken", x.ifBooked(0, 9, false, 3), 0);
        x.set(0, 1);
        x.set(1, 2);
        due("the lowest station that is not night", x.ifBooked(0, 9, false, 2), 3);
        x.book(0, 9, false);
        due("the lowest second berth", x.passenger(x.count(0) - 1, 5), 2);
    }

    private static void bookThrows() {
        promise = "2";
        SleeperBerths x = withFortyPassengers();
        due("40 passengers", x.count(0), 40);
        due("berths are left", x.whyNot(3, 4), 0);
        dueThrow("book a 41st", x, STATE, () -> x.book(3, 4, true));
        dueThrow("book(9, 9)", x, ARGUMENT, () -> x.book(9, 9, false));
        SleeperBerths y = new SleeperBerths();
        dueThrow("book(-1, 3)", y, ARGUMENT, () -> y.book(-1, 3, false));
        dueThrow("book(0, 10)", y, ARGUMENT, () -> y.book(0, 10, false));
        dueThrow("book(4, 4)", y, ARGUMENT, () -> y.book(4, 4, false));
        dueThrow("book(4, 3)", y, ARGUMENT, () -> y.book(4, 3, false));
        dueThrow("book(9, 10)", y, ARGUMENT, () -> y.book(9, 10, false));
        dueThrow("book(min, max)", y, ARGUMENT, () -> y.book(Integer.MIN_VALUE, Integer.MAX_VALUE, true));
        due("book(8, 9)", y.book(8, 9, false), 0);
        x.cancel(3);
        due("number behind a cancelled one", x.book(3, 4, true), 40);
        dueThrow("again 40", x, STATE, () -> x.book(3, 4, true));
    }

    // ---- promise 3

    private static void cancel() {
        promise = "3";
        SleeperBerths x = new SleeperBerths();
        x.book(0, 9, true);
        seat(x, 2, 4, 1);
        seat(x, 0, 9, 5);
        due("tip of one woken at 2 and 4", x.cancel(0), 8);
        due("holder", x.holder(0, 0), NONE);
        due("the next by number", x.passenger(0, 0), 1);
        due("and the next", x.passenger(1, 0), 2);
        due("passengers", x.count(0), 2);
        due("bookings so far", x.count(6), 3);
        dueThrow("cancel one that is gone", x, BOUNDS, () -> x.cancel(0));
        dueThrow("cancel(3)", x, BOUNDS, () -> x.cancel(3));
        dueThrow("cancel(-1)", x, BOUNDS, () -> x.cancel(-1));
        due("tip", x.cancel(2), 10);
        due("tip", x.cancel(1), 10);
        due("nobody", x.count(0), 0);
        due("saved", x.count(8), 6);
        due("undo", x.undo(), 5);
        due("back again", x.passenger(0, 0), 1);

        SleeperBerths y = twoHalves();
        y.set(0, 5);
        y.book(1, 9, false);
        y.set(2, 2);
        due("a tip is not below 0", y.cancel(7), 0);
        due("both berths are given back: the first", y.holder(0, 1), NONE);
        due("and the last", y.holder(5, 8), NONE);
        due("but not those of others", y.holder(0, 4), 0);
    }

    // ---- promise 4

    private static void place() {
        promise = "4";
        SleeperBerths x = new SleeperBerths();
        x.book(2, 6, false);
        due("place(0, 17)", x.place(0, 17), 0);
        due("the new berth", x.holder(17, 2), 0);
        due("up to the last leg", x.holder(17, 5), 0);
        due("not behind", x.holder(17, 6), NONE);
        due("the old one is free", x.holder(0, 2), NONE);
        due("the same berth again", x.place(0, 17), 17);
        due("saved", x.count(8), 3);
        due("no booking", x.count(6), 1);
        x.book(0, 2, false);
        x.book(6, 9, false);
        due("before another", x.place(1, 17), 0);
        due("behind another", x.place(2, 17), 0);
        x.book(0, 9, true);
        due("paid through, own berth", x.place(3, 0), 0);

        SleeperBerths y = twoHalves();
        y.set(0, 5);
        y.book(1, 9, false);
        y.cancel(1);
        due("one who changes the berth", y.place(7, 1), 0);
        due("no change any more", y.count(2), 0);
        due("one berth", y.passenger(6, 5), 1);
        due("first half is free", y.holder(0, 1), NONE);
        due("second half is free", y.holder(5, 8), NONE);
        y.cancel(0);
        due("saved states are 6 at most", y.count(8), 6);
        due("over berths of one's own", y.place(7, 0), 1);
        y.undo();
        y.undo();
        y.undo();
        due("undone to two berths", y.passenger(7, 5), NONE);
    }

    private static void placeThrows() {
        promise = "4";
        SleeperBerths x = new SleeperBerths();
        x.book(0, 9, true);
        seat(x, 3, 5, 2);
        seat(x, 4, 8, 4);
        dueThrow("place(3, 0)", x, BOUNDS, () -> x.place(3, 0));
        dueThrow("place(-1, 0)", x, BOUNDS, () -> x.place(-1, 0));
        dueThrow("place(1, 18)", x, BOUNDS, () -> x.place(1, 18));
        dueThrow("place(1, -1)", x, BOUNDS, () -> x.place(1, -1));
        dueThrow("paid through and a wrong berth", x, BOUNDS, () -> x.place(0, 18));
        dueThrow("paid through", x, STATE, () -> x.place(0, 1));
        dueThrow("another has it on all legs", x, STATE, () -> x.place(1, 0));
        dueThrow("another has it on the last leg", x, STATE, () -> x.place(1, 4));
        dueThrow("another has it on the first leg", x, STATE, () -> x.place(2, 2));
        x.cut(1, 7);
        dueThrow("the coach does not go so far", x, STATE, () -> x.place(2, 6));
        x.cut(1, 8);
        due("now it does", x.place(2, 6), 4);
        x.cancel(1);
        dueThrow("one that is gone", x, BOUNDS, () -> x.place(1, 5));
    }

    // ---- promise 5

    private static void rebook() {
        promise = "5";
        SleeperBerths x = new SleeperBerths();
        x.book(0, 9, false);
        seat(x, 2, 4, 1);
        due("woken at 2 and 4", x.passenger(0, 7), 2);
        due("rebook(0)", x.rebook(0), 2);
        due("the calmest, lowest berth", x.passenger(0, 4), 2);
        due("the same number", x.passenger(0, 0), 0);
        due("not woken", x.passenger(0, 7), 0);
        due("bookings, also anew", x.count(6), 3);
        due("rebook again", x.rebook(0), 0);
        due("own berth counts as free", x.passenger(0, 4), 2);
        due("saved", x.count(8), 5);
        due("undo", x.undo(), 4);
        due("bookings are undone too", x.count(6), 3);
        due("undo", x.undo(), 3);
        due("back in berth 0", x.passenger(0, 4), 0);
        due("in the table too", x.holder(0, 8), 0);

        SleeperBerths y = twoHalves();
        y.set(0, 0);
        y.set(1, 0);
        due("a way over two berths", y.book(1, 9, false), 7);
        y.cancel(4);
        due("woken more, as one berth is left on the whole way", y.rebook(7), -1);
        due("it is 5", y.passenger(6, 4), 5);
        due("no change", y.passenger(6, 6), NONE);

        SleeperBerths z = twoHalves();
        z.set(1, 2);
        z.book(1, 9, false);
        z.set(0, 0);
        z.set(1, 4);
        dueThrow("its change is night now", z, STATE, () -> z.rebook(7));
        due("it keeps the berths", z.holder(5, 8), 7);
        due("it keeps the berths", z.holder(0, 1), 7);
        z.set(1, 3);
        due("woken less by none", z.rebook(7), 0);
    }

    private static void rebookThrows() {
        promise = "5";
        SleeperBerths x = new SleeperBerths();
        x.book(0, 9, true);
        dueThrow("paid through", x, STATE, () -> x.rebook(0));
        dueThrow("rebook(1)", x, BOUNDS, () -> x.rebook(1));
        dueThrow("rebook(-1)", x, BOUNDS, () -> x.rebook(-1));
        SleeperBerths y = withFortyPassengers();
        y.cancel(39);
        y.book(2, 3, false);
        due("40 passengers do not matter", y.rebook(40), 0);
        due("as it is one of them", y.count(0), 40);
        due("numbers stay in order", y.passenger(39, 0), 40);
    }

    // ---- promise 6

    private static void cut() {
        promise = "6";
        SleeperBerths x = new SleeperBerths();
        due("cut(1, 5)", x.cut(1, 5), 9);
        due("cut(1, 1)", x.cut(1, 1), 5);
        due("cut(1, 9)", x.cut(1, 9), 1);
        due("cut(1, 9) changes nothing", x.cut(1, 9), 9);
        due("but is saved", x.count(8), 4);
        seat(x, 2, 5, 11);
        dueThrow("a berth on leg 4", x, STATE, () -> x.cut(1, 4));
        dueThrow("a berth behind on all legs", x, STATE, () -> x.cut(1, 1));
        due("just behind the last leg", x.cut(1, 5), 9);
        due("coach 0 has nobody", x.cut(0, 1), 9);
        due("coach 2 has nobody", x.cut(2, 1), 9);
        due("berths that can be had on leg 4", x.free(4, 0), 5);
        due("berths that can be had on leg 5", x.free(5, 0), 0);
        dueThrow("cut(3, 5)", x, BOUNDS, () -> x.cut(3, 5));
        dueThrow("cut(-1, 5)", x, BOUNDS, () -> x.cut(-1, 5));
        dueThrow("cut(3, 0)", x, BOUNDS, () -> x.cut(3, 0));
        dueThrow("cut(1, 0)", x, ARGUMENT, () -> x.cut(1, 0));
        dueThrow("cut(1, 10)", x, ARGUMENT, () -> x.cut(1, 10));
        x.undo();
        due("undone", x.goesTo(2), 9);
        seat(x, 8, 9, 12);
        dueThrow("the lowest berth of a coach, on the last leg", x, STATE, () -> x.cut(2, 8));
    }

    // ---- promise 7

    private static void set() {
        promise = "7";
        SleeperBerths x = twoHalves();
        due("set(0, 9)", x.set(0, 9), 3);
        due("set(0, 0)", x.set(0, 0), 9);
        due("set(1, 0)", x.set(1, 0), 6);
        due("set(1, 9)", x.set(1, 9), 0);
        due("set(2, 50)", x.set(2, 50), 10);
        due("set(2, 0)", x.set(2, 0), 50);
        due("set(2, 0) again", x.set(2, 0), 0);
        dueThrow("set(3, 0)", x, BOUNDS, () -> x.set(3, 0));
        dueThrow("set(-1, 0)", x, BOUNDS, () -> x.set(-1, 0));
        dueThrow("set(3, -1)", x, BOUNDS, () -> x.set(3, -1));
        dueThrow("set(0, 10)", x, ARGUMENT, () -> x.set(0, 10));
        dueThrow("set(0, -1)", x, ARGUMENT, () -> x.set(0, -1));
        dueThrow("set(1, 10)", x, ARGUMENT, () -> x.set(1, 10));
        dueThrow("set(1, -1)", x, ARGUMENT, () -> x.set(1, -1));
        dueThrow("set(2, 51)", x, ARGUMENT, () -> x.set(2, 51));
        dueThrow("set(2, -1)", x, ARGUMENT, () -> x.set(2, -1));

        SleeperBerths y = twoHalves();
        y.set(0, 4);
        y.set(1, 4);
        due("changes at 3", y.book(1, 9, false), 7);
        y.set(0, 3);
        due("berths that passengers have stay", y.passenger(7, 6), 3);
        y.set(2, 20);
        due("the tip follows the setting", y.passenger(7, 8), 16);
        y.set(0, 5);
        y.set(1, 3);
        due("no night if setting 0 is greater", y.rebook(7), 1);
        due("changes at 4", y.passenger(7, 6), 4);
    }

    // ---- promises 8 to 10

    private static void append() {
        promise = "8";
        SleeperBerths x = new SleeperBerths();
        due("append(33)", x.append(33), 1);
        due("append(126)", x.append(126), 2);
        dueThrow("append(32)", x, ARGUMENT, () -> x.append(32));
        dueThrow("append(127)", x, ARGUMENT, () -> x.append(127));
        dueThrow("append(-1)", x, ARGUMENT, () -> x.append(-1));
        for (int length = 3; length <= 60; length++) {
            due("append('0')", x.append('0'), length);
        }
        dueThrow("a 61st character", x, STATE, () -> x.append('0'));
        dueThrow("a 61st character that is none", x, ARGUMENT, () -> x.append(32));
        due("not undoable", x.count(8), 0);
    }

    private static void clearBuffer() {
        promise = "9";
        SleeperBerths x = new SleeperBerths();
        due("an empty one", x.clearBuffer(), 0);
        write(x, "4-5;");
        due("clearBuffer()", x.clearBuffer(), 4);
        due("it is empty", x.clearBuffer(), 0);
        due("not undoable", x.count(8), 0);
        write(x, "0-9");
        due("what was cleared is gone", x.firstError(), 3);
        due("bookAll()", x.bookAll(), 1);
        for (int i = 0; i < 60; i++) {
            x.append('~');
        }
        due("a full one", x.clearBuffer(), 60);
        due("append again", x.append('~'), 1);
    }

    private static void errorAt(String text, int index) {
        SleeperBerths x = new SleeperBerths();
        write(x, text);
        due("firstError() of " + text, x.firstError(), index);
        due("the buffer stays", x.clearBuffer(), text.length());
    }

    private static void firstError() {
        promise = "10";
        String[] withoutError = {
            "", "0", "8", "0-", "0-9", "8-9", "3-4!", "3-4;", "3-4!;", "3-4!;5", "1-2;1-2;1-2", "0-1;0-1;0-1;0-1;0-1;0-1;0-1;0-1;0-1;0-1;0-1;0-1;0-1;0-1;0-1;"
        };
        for (String text : withoutError) {
            errorAt(text, text.length());
        }
        errorAt("9", 0);
        errorAt("9-9", 0);
        errorAt("-", 0);
        errorAt("!", 0);
        errorAt(";", 0);
        errorAt("/", 0);
        errorAt(":", 0);
        errorAt("00", 1);
        errorAt("0;", 1);
        errorAt("0!", 1);
        errorAt("4-4", 2);
        errorAt("4-3", 2);
        errorAt("4-0", 2);
        errorAt("4--", 2);
        errorAt("4-:", 2);
        errorAt("4-;", 2);
        errorAt("4-!", 2);
        errorAt("4-56", 3);
        errorAt("4-5-", 3);
        errorAt("4-5!!", 4);
        errorAt("4-5!6", 4);
        errorAt("4-5;;", 4);
        errorAt("4-5;!", 4);
        errorAt("4-5;9", 4);
        errorAt("4-5!;9", 5);
        errorAt("4-5!;2-1", 7);
        errorAt("4-5!;2-1;;;;", 7);
    }

    // ---- promise 11

    private static void bookAll() {
        promise = "11";
        SleeperBerths x = new SleeperBerths();
        write(x, "0-9;3-7!;0-9");
        due("bookAll()", x.bookAll(), 3);
        due("the buffer is cleared", x.clearBuffer(), 0);
        due("one saved state", x.count(8), 1);
        due("first, from", x.passenger(0, 1), 0);
        due("first, to", x.passenger(0, 2), 9);
        due("first has not paid through", x.passenger(0, 3), 0);
        due("second, from", x.passenger(1, 1), 3);
        due("second, to", x.passenger(1, 2), 7);
        due("second has paid through", x.passenger(1, 3), 1);
        due("one after the other: not woken beside the first", x.passenger(1, 4), 1);
        due("third", x.passenger(2, 4), 2);
        due("bookings", x.count(6), 3);
        write(x, "0-1!;1-2!");
        due("bookAll()", x.bookAll(), 2);
        due("both have paid through", x.count(1), 3);
        write(x, "5");
        due("undo is one call", x.undo(), 1);
        due("three are left", x.count(0), 3);
        due("the buffer is not undone", x.clearBuffer(), 1);
        due("undo", x.undo(), 0);
        due("nobody is left", x.count(0), 0);
        write(x, "0-1;0-1;0-1;0-1;0-1;0-1;0-1;0-1;0-1;0-1;0-1;0-1;0-1;0-1;0-1");
        due("15 passengers", x.bookAll(), 15);
    }

    private static void bookAllLeavesOut() {
        promise = "11";
        SleeperBerths x = new SleeperBerths();
        bookTimes(x, 17, 2, 3);
        write(x, "0-9;0-9!;2-3!;0-9;0-2;3-9!");
        due("the second, the third and the fourth are left out", x.bookAll(), 3);
        due("left out", x.count(7), 3);
        due("bookings", x.count(6), 20);
        due("numbers have no gap", x.passenger(18, 0), 18);
        due("the fifth", x.passenger(18, 2), 2);
        write(x, "2-3");
        due("all are left out", x.bookAll(), 0);
        due("left out so far", x.count(7), 4);
        due("the buffer is cleared", x.clearBuffer(), 0);
        due("saved", x.count(8), 6);
        due("undo", x.undo(), 5);
        due("left out is undone too", x.count(7), 3);

        SleeperBerths y = withFortyPassengers();
        y.cancel(0);
        write(y, "4-5;4-5!;4-5");
        due("one comes to be the 40th", y.bookAll(), 1);
        due("40 passengers", y.count(0), 40);
        due("left out", y.count(7), 2);
    }

    private static void bookAllThrows() {
        promise = "11";
        String[] incomplete = {"", "0", "0-", "0-1;", "0-1!;", "0-1;3", "0-1;3-", "1-0", "0-1!!", "9-9", "0-1;;0-1", "-", "!", "~-9", "0-1x", "3-!"};
        for (String text : incomplete) {
            SleeperBerths x = new SleeperBerths();
            write(x, text);
            dueThrow("bookAll() of " + text, x, ARGUMENT, x::bookAll);
            due("the buffer stays", x.clearBuffer(), text.length());
        }
    }

    // ---- promise 12

    private static void undo() {
        promise = "12";
        SleeperBerths x = new SleeperBerths();
        dueThrow("undo of nothing", x, STATE, x::undo);
        for (int tip = 1; tip <= 8; tip++) {
            x.set(2, tip);
        }
        due("saved", x.count(8), 6);
        for (int tip = 7; tip >= 2; tip--) {
            due("undo", x.undo(), tip - 2);
            due("setting(2)", x.setting(2), tip);
        }
        dueThrow("the oldest were dropped", x, STATE, x::undo);
        x.set(2, 30);
        x.set(2, 31);
        due("undo", x.undo(), 1);
        x.set(2, 32);
        due("saved", x.count(8), 2);
        due("undo", x.undo(), 1);
        due("the latest", x.setting(2), 30);
        due("undo", x.undo(), 0);
        due("the first", x.setting(2), 2);
    }

    private static void undoBringsBackAll() {
        promise = "12";
        for (int kinds = 1; kinds <= 6; kinds++) {
            SleeperBerths x = changed(6);
            for (int kind = 6; kind >= kinds; kind--) {
                due("undo", x.undo(), kind - 1);
            }
            sameButSaved(x, changed(kinds - 1));
        }
        SleeperBerths x = changed(6);
        for (int kind = 6; kind >= 1; kind--) {
            x.undo();
        }
        due("the number of the next is undone too", x.book(0, 1, true), 7);
    }

    private static SleeperBerths changed(int kinds) {
        SleeperBerths x = twoHalves();
        x.set(0, 5);
        for (int kind = 0; kind < kinds; kind++) {
            change(x, kind);
        }
        return x;
    }

    private static void change(SleeperBerths x, int kind) {
        switch (kind) {
            case 0: x.book(1, 9, false); break;
            case 1: x.cancel(4); break;
            case 2: x.rebook(7); break;
            case 3: x.cut(2, 2); break;
            case 4: x.place(6, 4); break;
            default: x.append('0'); x.append('-'); x.append('1'); x.bookAll(); break;
        }
    }

    private static void sameButSaved(SleeperBerths x, SleeperBerths y) {
        for (int what = 0; what < 8; what++) {
            due("count(" + what + ")", x.count(what), y.count(what));
        }
        for (int place = 0; place < 10; place++) {
            for (int what = 0; what < 9; what++) {
                due("passenger(" + place + ", " + what + ")", x.passenger(place, what), y.passenger(place, what));
            }
        }
        for (int berth = 0; berth < 18; berth++) {
            for (int leg = 0; leg < 9; leg++) {
                due("holder(" + berth + ", " + leg + ")", x.holder(berth, leg), y.holder(berth, leg));
            }
        }
        for (int which = 0; which < 3; which++) {
            due("goesTo", x.goesTo(which), y.goesTo(which));
            due("setting", x.setting(which), y.setting(which));
        }
    }

    // ---- promises 13 to 18

    private static void holder() {
        promise = "13";
        SleeperBerths x = new SleeperBerths();
        seat(x, 0, 9, 17);
        seat(x, 2, 3, 0);
        due("holder(17, 0)", x.holder(17, 0), 0);
        due("holder(17, 8)", x.holder(17, 8), 0);
        due("holder(0, 1)", x.holder(0, 1), NONE);
        due("holder(0, 2)", x.holder(0, 2), 1);
        due("holder(0, 3)", x.holder(0, 3), NONE);
        due("holder(16, 8)", x.holder(16, 8), NONE);
        dueThrow("holder(18, 0)", x, BOUNDS, () -> x.holder(18, 0));
        dueThrow("holder(-1, 8)", x, BOUNDS, () -> x.holder(-1, 8));
        dueThrow("holder(0, 9)", x, BOUNDS, () -> x.holder(0, 9));
        dueThrow("holder(1, -1)", x, BOUNDS, () -> x.holder(1, -1));
        x.cut(1, 2);
        due("behind a cut", x.holder(6, 5), NONE);
    }

    private static void passenger() {
        promise = "14";
        SleeperBerths x = twoHalves();
        x.set(0, 5);
        x.book(1, 9, false);
        x.cancel(1);
        int[] want = {7, 1, 9, 0, 0, 5, 4, 0, 7};
        for (int what = 0; what <= 8; what++) {
            due("passenger(6, " + what + ")", x.passenger(6, what), want[what]);
        }
        x.book(2, 3, true);
        int[] paid = {8, 2, 3, 1, 1, 1, NONE, 0, 10};
        for (int what = 0; what <= 8; what++) {
            due("passenger(7, " + what + ")", x.passenger(7, what), paid[what]);
        }
        due("woken at 2 and 3 by the newcomer", x.passenger(6, 7), 2);
        due("tip 10 - 2 - 3", x.passenger(6, 8), 5);
        for (int what = 0; what <= 8; what++) {
            due("passenger(8, " + what + ")", x.passenger(8, what), NONE);
        }
        due("passenger(max, 8)", x.passenger(Integer.MAX_VALUE, 8), NONE);
        dueThrow("passenger(-1, 0)", x, ARGUMENT, () -> x.passenger(-1, 0));
        dueThrow("passenger(0, 9)", x, ARGUMENT, () -> x.passenger(0, 9));
        dueThrow("passenger(0, -1)", x, ARGUMENT, () -> x.passenger(0, -1));
        dueThrow("passenger(99, 9)", x, ARGUMENT, () -> x.passenger(99, 9));

        SleeperBerths y = new SleeperBerths();
        y.book(2, 7, true);
        seat(y, 0, 2, 1);
        seat(y, 7, 9, 1);
        due("not woken at the first and last station", y.passenger(0, 7), 0);
        seat(y, 2, 4, 1);
        due("woken when one goes", y.passenger(0, 7), 1);
        seat(y, 4, 7, 1);
        due("woken once when another comes as one goes", y.passenger(0, 7), 1);
        due("those of the next compartment do not wake", seat(y, 3, 5, 2), 5);
        due("still once", y.passenger(0, 7), 1);
    }

    private static void count() {
        promise = "15";
        SleeperBerths x = twoHalves();
        x.set(0, 4);
        x.book(1, 9, false);
        x.book(0, 1, true);
        due("passenger 1 is woken at 3, as 7 leaves berth 0, and at 4, as 0 comes", x.passenger(1, 7), 2);
        due("passenger 5 is woken at 3, as 4 goes and 7 comes", x.passenger(5, 7), 1);
        due("passenger 7 is woken at 4, as 5 goes and 6 comes", x.passenger(7, 7), 1);
        int had = 5 + 8 + 8 + 8 + 2 + 3 + 5 + 8 + 1;
        int[] want = {9, 1, 1, 4, 9 * 10 - 4 - 3, had, 9, 0, 6};
        for (int what = 0; what <= 8; what++) {
            due("count(" + what + ")", x.count(what), want[what]);
        }
        for (int number = 0; number < 7; number++) {
            x.cancel(number);
        }
        due("the first by number changes the berth", x.count(2), 1);
        due("passengers", x.count(0), 2);
        dueThrow("count(9)", x, ARGUMENT, () -> x.count(9));
        dueThrow("count(-1)", x, ARGUMENT, () -> x.count(-1));
    }

    private static void free() {
        promise = "16";
        SleeperBerths x = new SleeperBerths();
        due("free(8, 0)", x.free(8, 0), 18);
        due("free(0, 1)", x.free(0, 1), 0);
        x.book(0, 3, true);
        x.cut(0, 5);
        due("free(2, 0)", x.free(2, 0), 17);
        due("free(2, 1)", x.free(2, 1), 1);
        due("free(3, 1)", x.free(3, 1), 0);
        due("free(4, 0)", x.free(4, 0), 18);
        due("free(5, 0)", x.free(5, 0), 12);
        due("free(5, 1)", x.free(5, 1), 6);
        x.cut(1, 7);
        x.cut(2, 7);
        due("none", x.free(7, 0), 0);
        due("no lowest", x.free(7, 1), NONE);
        dueThrow("free(9, 0)", x, BOUNDS, () -> x.free(9, 0));
        dueThrow("free(-1, 0)", x, BOUNDS, () -> x.free(-1, 0));
        dueThrow("free(9, 2)", x, BOUNDS, () -> x.free(9, 2));
        dueThrow("free(0, 2)", x, ARGUMENT, () -> x.free(0, 2));
        dueThrow("free(0, -1)", x, ARGUMENT, () -> x.free(0, -1));
    }

    private static void goesToAndSetting() {
        promise = "17";
        SleeperBerths x = new SleeperBerths();
        x.cut(0, 3);
        x.cut(1, 4);
        x.cut(2, 5);
        due("goesTo(0)", x.goesTo(0), 3);
        due("goesTo(1)", x.goesTo(1), 4);
        due("goesTo(2)", x.goesTo(2), 5);
        dueThrow("goesTo(3)", x, BOUNDS, () -> x.goesTo(3));
        dueThrow("goesTo(-1)", x, BOUNDS, () -> x.goesTo(-1));
        promise = "18";
        x.set(0, 7);
        x.set(1, 8);
        x.set(2, 49);
        due("setting(0)", x.setting(0), 7);
        due("setting(1)", x.setting(1), 8);
        due("setting(2)", x.setting(2), 49);
        dueThrow("setting(3)", x, BOUNDS, () -> x.setting(3));
        dueThrow("setting(-1)", x, BOUNDS, () -> x.setting(-1));
    }

    // ---- promises 19 to 23

    private static void ifBookedIs(SleeperBerths x, int from, int to, boolean isThrough, int... want) {
        for (int what = 0; what < 4; what++) {
            String call = "ifBooked(" + from + ", " + to + ", " + isThrough + ", " + what + ")";
            due(call, x.ifBooked(from, to, isThrough, what), want[what]);
        }
    }

    private static void ifBooked() {
        promise = "19";
        SleeperBerths x = twoHalves();
        ifBookedIs(x, 1, 9, true, 0, NONE, NONE, NONE);
        ifBookedIs(x, 1, 9, false, 0, NONE, NONE, NONE);
        x.set(0, 4);
        ifBookedIs(x, 1, 9, true, 0, NONE, NONE, NONE);
        ifBookedIs(x, 1, 9, false, 2, 0, 3, 1);
        x.set(0, 5);
        ifBookedIs(x, 1, 9, false, 2, 0, 4, 0);
        ifBookedIs(x, 3, 9, true, 1, 5, NONE, 1);
        ifBookedIs(x, 3, 9, false, 1, 5, NONE, 1);
        ifBookedIs(x, 0, 1, true, 1, 0, NONE, 0);
        SleeperBerths y = withFortyPassengers();
        ifBookedIs(y, 3, 9, true, 1, 0, NONE, 0);
        ifBookedIs(y, 1, 2, false, 0, NONE, NONE, NONE);
        dueThrow("ifBooked(9, 9)", x, ARGUMENT, () -> x.ifBooked(9, 9, true, 0));
        dueThrow("ifBooked(-1, 9)", x, ARGUMENT, () -> x.ifBooked(-1, 9, true, 0));
        dueThrow("ifBooked(4, 4)", x, ARGUMENT, () -> x.ifBooked(4, 4, true, 0));
        dueThrow("ifBooked(4, 10)", x, ARGUMENT, () -> x.ifBooked(4, 10, true, 0));
        dueThrow("what 4", x, ARGUMENT, () -> x.ifBooked(1, 9, false, 4));
        dueThrow("what -1", x, ARGUMENT, () -> x.ifBooked(1, 9, false, -1));
    }

    private static void whyNot() {
        promise = "20";
        SleeperBerths x = twoHalves();
        due("whyNot(0, 1)", x.whyNot(0, 1), 0);
        due("whyNot(1, 4)", x.whyNot(1, 4), 0);
        due("3: berths on each leg, but none on all", x.whyNot(1, 9), 3);
        x.set(0, 5);
        due("one who changes could, one who paid through could not", x.whyNot(1, 9), 3);
        x.book(1, 9, false);
        due("3 still: berth 5 on leg 3, but none on leg 1", x.whyNot(3, 4), 0);
        due("2: no berth on leg 1", x.whyNot(0, 2), 2);
        due("2: no berth on leg 8", x.whyNot(3, 9), 2);
        SleeperBerths y = new SleeperBerths();
        y.cut(0, 4);
        y.cut(1, 5);
        y.cut(2, 3);
        due("the farthest coach", y.whyNot(0, 5), 0);
        due("1: no coach goes so far", y.whyNot(0, 6), 1);
        due("1: no coach goes there at all", y.whyNot(7, 8), 1);
        bookTimes(y, 6, 4, 5);
        due("2", y.whyNot(0, 5), 2);
        due("1 comes before 2", y.whyNot(0, 6), 1);
        y.cancel(0);
        due("0 again", y.whyNot(0, 5), 0);
        dueThrow("whyNot(5, 5)", y, ARGUMENT, () -> y.whyNot(5, 5));
        dueThrow("whyNot(-1, 5)", y, ARGUMENT, () -> y.whyNot(-1, 5));
        dueThrow("whyNot(9, 10)", y, ARGUMENT, () -> y.whyNot(9, 10));
        dueThrow("whyNot(0, 10)", y, ARGUMENT, () -> y.whyNot(0, 10));
    }

    private static void farthest() {
        promise = "21";
        SleeperBerths x = twoHalves();
        due("farthest(0)", x.farthest(0), 4);
        due("farthest(1)", x.farthest(1), 4);
        due("farthest(3)", x.farthest(3), 9);
        x.set(0, 5);
        x.book(1, 9, false);
        due("only up to 1", x.farthest(0), 1);
        due("none", x.farthest(1), 1);
        due("berth 5 on leg 3", x.farthest(3), 4);
        due("none from 8", x.farthest(8), 8);
        SleeperBerths y = new SleeperBerths();
        due("all the way", y.farthest(8), 9);
        y.cut(0, 4);
        y.cut(1, 5);
        y.cut(2, 3);
        due("the farthest coach", y.farthest(0), 5);
        due("no coach goes there", y.farthest(5), 5);
        due("nor there", y.farthest(7), 7);
        dueThrow("farthest(9)", y, ARGUMENT, () -> y.farthest(9));
        dueThrow("farthest(-1)", y, ARGUMENT, () -> y.farthest(-1));
    }

    private static void fullnessIs(SleeperBerths x, double want) {
        due("the bits of fullness()", Double.doubleToLongBits(x.fullness()), Double.doubleToLongBits(want));
    }

    private static void fullness() {
        promise = "22";
        SleeperBerths x = new SleeperBerths();
        fullnessIs(x, 0.0);
        x.book(0, 1, true);
        fullnessIs(x, 1.0 / 162.0);
        x.book(0, 9, true);
        fullnessIs(x, 10.0 / 162.0);
        x.cut(1, 2);
        fullnessIs(x, 10.0 / 120.0);
        x.cut(2, 1);
        fullnessIs(x, 10.0 / 72.0);
        SleeperBerths y = new SleeperBerths();
        y.cut(0, 1);
        y.cut(1, 1);
        y.cut(2, 1);
        bookTimes(y, 17, 0, 1);
        fullnessIs(y, 17.0 / 18.0);
        y.book(0, 1, false);
        fullnessIs(y, 1.0);
    }

    /** The digest by the document's list, from the answers of the other calls. */
    private static long digestOf(SleeperBerths x, String buffer) {
        long hash = 2999;
        for (int what = 0; what <= 8; what++) {
            hash = 31 * hash + x.count(what);
        }
        for (int index = 0; index <= 2; index++) {
            hash = 31 * hash + x.setting(index);
        }
        for (int coach = 0; coach <= 2; coach++) {
            hash = 31 * hash + x.goesTo(coach);
        }
        for (int berth = 0; berth <= 17; berth++) {
            for (int leg = 0; leg <= 8; leg++) {
                hash = 31 * hash + x.holder(berth, leg);
            }
        }
        for (int place = 0; place < x.count(0); place++) {
            for (int what = 0; what <= 8; what++) {
                hash = 31 * hash + x.passenger(place, what);
            }
        }
        for (int leg = 0; leg <= 8; leg++) {
            hash = 31 * (31 * hash + x.free(leg, 0)) + x.free(leg, 1);
        }
        for (int station = 0; station <= 8; station++) {
            hash = 31 * (31 * hash + x.farthest(station)) + x.whyNot(station, 9);
        }
        for (int what = 0; what <= 3; what++) {
            hash = 31 * hash + x.ifBooked(1, 8, false, what);
        }
        hash = 31 * hash + Double.doubleToLongBits(x.fullness());
        hash = 31 * hash + buffer.length();
        for (int i = 0; i < buffer.length(); i++) {
            hash = 31 * hash + buffer.charAt(i);
        }
        return hash;
    }

    private static void digest() {
        promise = "23";
        SleeperBerths w = new SleeperBerths();
        due("of a new one", w.digest(), digestOf(w, ""));
        SleeperBerths x = new SleeperBerths();
        write(x, "~0-9");
        due("with a buffer", x.digest(), digestOf(x, "~0-9"));
        SleeperBerths y = twoHalves();
        y.set(0, 5);
        y.book(1, 9, false);
        due("with passengers", y.digest(), digestOf(y, ""));
        SleeperBerths v = twoHalves();
        v.set(0, 5);
        due("with berths from 1 to 8 for one who changes", v.digest(), digestOf(v, ""));
        SleeperBerths u = besideManyWhoComeAndGo();
        ifBookedIs(u, 1, 8, false, 1, 0, NONE, 6);
        due("with a berth from 1 to 8 in which one is woken at each station", u.digest(), digestOf(u, ""));
        SleeperBerths t = oneBerthFrom1To8();
        ifBookedIs(t, 1, 8, false, 1, 4, NONE, 0);
        ifBookedIs(t, 2, 8, false, 1, 0, NONE, 0);
        ifBookedIs(t, 1, 7, false, 1, 2, NONE, 0);
        due("with just one berth from 1 to 8", t.digest(), digestOf(t, ""));
        // each share from 1 to 18 of 18 has other bits
        for (int had = 1; had <= 18; had++) {
            SleeperBerths z = new SleeperBerths();
            z.cut(0, 1);
            z.cut(1, 1);
            z.cut(2, 1);
            bookTimes(z, had, 0, 1);
            due("with " + had + " berths of 18", z.digest(), digestOf(z, ""));
        }
    }

    /** Only berth 0 is left from station 1 on, and beside it there is another one on each leg. */
    private static SleeperBerths besideManyWhoComeAndGo() {
        SleeperBerths x = new SleeperBerths();
        for (int leg = 0; leg < 9; leg++) {
            seat(x, leg, leg + 1, 1);
        }
        for (int berth = 2; berth < 6; berth++) {
            seat(x, 0, 9, berth);
        }
        x.cut(1, 1);
        x.cut(2, 1);
        return x;
    }

    /** Berth 4 can be had from 1 to 8 and no farther, 0 from 2 on, and 2 up to 7. */
    private static SleeperBerths oneBerthFrom1To8() {
        SleeperBerths x = new SleeperBerths();
        for (int berth = 1; berth < 6; berth += 2) {
            seat(x, 0, 9, berth);
        }
        seat(x, 1, 2, 0);
        seat(x, 7, 8, 2);
        seat(x, 0, 1, 4);
        seat(x, 8, 9, 4);
        x.cut(1, 1);
        x.cut(2, 1);
        return x;
    }

    private static void looksChangeNothing() {
        promise = "13 to 23";
        SleeperBerths x = twoHalves();
        write(x, "0-1;");
        x.set(0, 5);
        long before = x.digest();
        x.holder(0, 0);
        x.passenger(0, 8);
        x.count(4);
        x.free(0, 0);
        x.goesTo(0);
        x.setting(0);
        x.ifBooked(1, 9, false, 0);
        x.ifBooked(0, 1, true, 3);
        x.whyNot(0, 9);
        x.farthest(0);
        x.fullness();
        x.firstError();
        due("digest() behind the looks", x.digest(), before);
        due("the next number", x.book(0, 1, true), 7);
    }
}
