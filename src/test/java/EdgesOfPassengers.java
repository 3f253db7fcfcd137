/** Promises 1 to 5, and the number of a passenger: each sentence that names an edge, with calls of its own. */
public final class EdgesOfPassengers {
    private static final int NONE = Check.NONE;

    public static void main(String[] args) {
        none();
        newObject();
        twoObjects();
        bookFrom();
        bookTo();
        bookIsThrough();
        bookNumber();
        bookArguments();
        bookForty();
        bookFortyAtTheTime();
        bookRefused();
        cancelNumber();
        cancelTip();
        cancelFreesAllLegs();
        placeBerth();
        placeReturns();
        placeWholeWay();
        placeNoSuch();
        placePaidThrough();
        placeCoachNotSoFar();
        placeAnotherHasIt();
        rebookLess();
        rebookAsCancelledAndBooked();
        rebookSameNumber();
        rebookNoSuch();
        rebookPaidThrough();
        rebookRefused();
        Check.end("EdgesOfPassengers");
    }

    // ---- promise 1

    private static void none() {
        Check.sentence("NONE = -1: There is nothing to return.");
        Check.due("NONE", SleeperBerths.NONE, -1);
    }

    private static void newObject() {
        Check.sentence("Creates empty coaches, with an empty buffer.");
        SleeperBerths x = new SleeperBerths();
        for (int what = 0; what <= 8; what++) {
            Check.due("count(" + what + ")", x.count(what), 0);
            Check.due("passenger(0, " + what + ")", x.passenger(0, what), NONE);
        }
        for (int leg = 0; leg <= 8; leg++) {
            Check.due("free(" + leg + ", 0)", x.free(leg, 0), 18);
            Check.due("free(" + leg + ", 1)", x.free(leg, 1), 0);
            for (int berth = 0; berth <= 17; berth++) {
                Check.due("holder(" + berth + ", " + leg + ")", x.holder(berth, leg), NONE);
            }
        }
        Check.dueBits("fullness()", x.fullness(), 0.0);
        Check.due("firstError()", x.firstError(), 0);
        Check.due("clearBuffer()", x.clearBuffer(), 0);
        Check.refused("cancel(0)", Check.BOUNDS, SleeperBerths::new, y -> y.cancel(0));
        Check.refused("bookAll()", Check.ARGUMENT, SleeperBerths::new, SleeperBerths::bookAll);
        Check.refused("undo()", Check.STATE, SleeperBerths::new, SleeperBerths::undo);
    }

    private static void twoObjects() {
        Check.sentence("Creates empty coaches");
        SleeperBerths x = new SleeperBerths();
        long before = x.digest();
        SleeperBerths y = States.mixed();
        Check.due("digest() while another object is used", x.digest(), before);
        Check.due("digest() of one made behind", new SleeperBerths().digest(), before);
        long others = y.digest();
        x.book(0, 9, true);
        x.cut(2, 3);
        States.write(x, "3-4");
        Check.due("digest() of the other one", y.digest(), others);
    }

    // ---- promise 2

    private static void bookFrom() {
        Check.sentence("from: 0 to 8");
        Check.due("the least", new SleeperBerths().book(0, 9, true), 0);
        Check.due("the greatest", new SleeperBerths().book(8, 9, true), 0);
        int[] wrong = {-1, 9, 10, Check.LEAST, Check.GREATEST};
        for (int from : wrong) {
            Check.refused("book(" + from + ", 9, true)", Check.ARGUMENT, SleeperBerths::new, x -> x.book(from, 9, true));
            Check.refused("book(" + from + ", 9, false)", Check.ARGUMENT, States::mixed, x -> x.book(from, 9, false));
        }
        Check.refused("book(9, 10, false)", Check.ARGUMENT, SleeperBerths::new, x -> x.book(9, 10, false));
        Check.refused("book(-1, 0, false)", Check.ARGUMENT, SleeperBerths::new, x -> x.book(-1, 0, false));
    }

    private static void bookTo() {
        Check.sentence("to: from + 1 to 9");
        for (int from = 0; from <= 8; from++) {
            int first = from;
            SleeperBerths x = new SleeperBerths();
            Check.due("the least", x.book(from, from + 1, false), 0);
            Check.due("the greatest", x.book(from, 9, false), 1);
            int[] wrong = {from, from - 1, 10, Check.LEAST, Check.GREATEST};
            for (int to : wrong) {
                Check.refused("book(" + from + ", " + to + ", false)", Check.ARGUMENT, SleeperBerths::new, y -> y.book(first, to, false));
            }
        }
    }

    private static void bookIsThrough() {
        Check.sentence("isThrough: whether the passenger has paid through");
        SleeperBerths x = new SleeperBerths();
        x.book(0, 9, true);
        x.book(0, 9, false);
        Check.due("paid through", x.passenger(0, 3), 1);
        Check.due("not paid through", x.passenger(1, 3), 0);
        Check.due("those who paid through", x.count(1), 1);
    }

    private static void bookNumber() {
        Check.sentence("Returns the number of the passenger.");
        SleeperBerths x = new SleeperBerths();
        for (int number = 0; number < 120; number++) {
            Check.due("book(2, 3, false)", x.book(2, 3, false), number);
            Check.due("holder(0, 2)", x.holder(0, 2), number);
            Check.due("passenger(0, 0)", x.passenger(0, 0), number);
            Check.due("cancel(" + number + ")", x.cancel(number), 10);
        }
    }

    private static void bookArguments() {
        Check.sentence("Throws IllegalArgumentException if from or to is out of range");
        Check.refused("both beyond", Check.ARGUMENT, SleeperBerths::new, x -> x.book(-1, 10, true));
        Check.refused("both at the utmost", Check.ARGUMENT, SleeperBerths::new, x -> x.book(Check.GREATEST, Check.LEAST, true));
        Check.refused("from + 1 comes round", Check.ARGUMENT, SleeperBerths::new, x -> x.book(Check.GREATEST, 5, true));
        Check.refused("with 40 passengers, as it is named first", Check.ARGUMENT, States::forty, x -> x.book(4, 4, true));
        Check.refused("all full, as it is named first", Check.ARGUMENT, States::full, x -> x.book(0, 10, false));
    }

    private static void bookForty() {
        Check.sentence("Throws IllegalStateException if there are 40 passengers (at the time)");
        SleeperBerths x = States.crowd(39);
        Check.due("39 passengers", x.count(0), 39);
        Check.due("the 40th", x.book(3, 9, true), 39);
        Check.due("40 passengers", x.count(0), 40);
        Check.refused("the 41st, paid through", Check.STATE, States::forty, y -> y.book(3, 9, true));
        Check.refused("the 41st, not paid through", Check.STATE, States::forty, y -> y.book(3, 9, false));
        Check.due("though a berth would be found", x.whyNot(3, 9), 0);
        for (int place = 0; place < 40; place++) {
            Check.due("number at place " + place, x.passenger(place, 0), place);
        }
        Check.due("nobody at place 40", x.passenger(40, 0), NONE);
    }

    private static void bookFortyAtTheTime() {
        Check.sentence("40 passengers (at the time)");
        SleeperBerths x = States.forty();
        x.cancel(0);
        Check.due("one gone, one comes", x.book(3, 4, false), 40);
        Check.dueTold("40 again", Check.told(x, y -> y.book(3, 4, false)), "throws.IllegalStateException");
        x.undo();
        Check.due("one undone, one comes", x.book(4, 5, false), 40);
        for (int number = 1; number <= 18; number++) {
            x.cancel(number);
            Check.due("one after the other goes and comes", x.book(5, 6, false), 40 + number);
            Check.due("berths on leg 5", x.free(5, 0), 18 - number);
        }
        Check.due("40 passengers", x.count(0), 40);
        Check.due("the least number", x.passenger(0, 0), 19);
        Check.due("the greatest number", x.passenger(39, 0), 58);
    }

    private static void bookRefused() {
        Check.sentence("or the booking is refused");
        Check.due("the 18th on one leg", filled(17).book(4, 5, true), 17);
        Check.refused("the 19th, paid through", Check.STATE, () -> filled(18), x -> x.book(4, 5, true));
        Check.refused("the 19th, not paid through", Check.STATE, () -> filled(18), x -> x.book(4, 5, false));
        Check.due("the leg ahead", filled(18).book(0, 4, true), 18);
        Check.due("the leg behind", filled(18).book(5, 9, true), 18);
        Check.refused("over the leg", Check.STATE, () -> filled(18), x -> x.book(3, 6, false));
    }

    private static SleeperBerths filled(int berths) {
        SleeperBerths x = new SleeperBerths();
        States.bookTimes(x, berths, 4, 5);
        return x;
    }

    // ---- promise 3

    private static void cancelNumber() {
        Check.sentence("cancel ... Throws IndexOutOfBoundsException if there is no such passenger");
        int[] wrong = {-1, 18, 40, Check.LEAST, Check.GREATEST};
        for (int number : wrong) {
            Check.refused("cancel(" + number + ")", Check.BOUNDS, States::full, x -> x.cancel(number));
        }
        Check.refused("one that is gone", Check.BOUNDS, States::mixed, x -> x.cancel(17));
        Check.refused("the last one that is gone", Check.BOUNDS, States::mixed, x -> x.cancel(16));
        Check.due("the first", States.full().cancel(0), 10);
        Check.due("the last", States.full().cancel(17), 10);
        Check.due("behind those that are gone", States.mixed().cancel(20), 12);
        SleeperBerths x = States.full();
        x.undo();
        Check.dueTold("one that is undone", Check.told(x, y -> y.cancel(17)), "throws.IndexOutOfBoundsException");
        x.cancel(3);
        x.undo();
        Check.due("one whose going is undone", x.cancel(3), 10);
        SleeperBerths all = States.forty();
        for (int number = 39; number >= 0; number--) {
            all.cancel(number);
            Check.due("passengers", all.count(0), number);
        }
        Check.dueTold("none is left", Check.told(all, y -> y.cancel(0)), "throws.IndexOutOfBoundsException");
    }

    private static void cancelTip() {
        Check.sentence("Returns the tip of the passenger.");
        SleeperBerths x = new SleeperBerths();
        States.seat(x, 0, 9, 0);
        for (int leg = 0; leg <= 8; leg++) {
            States.seat(x, leg, leg + 1, 1);
        }
        x.set(2, 9);
        Check.due("woken 8 times of 9", x.cancel(0), 1);
        x.undo();
        x.set(2, 7);
        Check.due("woken 8 times of 7", x.cancel(0), 0);
        x.undo();
        x.set(2, 50);
        Check.due("the tip is that of before", x.cancel(0), 42);
        Check.due("the others, beside nobody now", x.cancel(5), 50);
        SleeperBerths y = States.withOneWhoChanges();
        Check.due("one who changes", y.cancel(18), 7);
        Check.due("one who was woken by that, and still is", y.cancel(1), 9);
        y.set(2, 0);
        Check.due("of 0", y.cancel(3), 0);
    }

    private static void cancelFreesAllLegs() {
        Check.sentence("Cancels a passenger.");
        for (int from = 0; from <= 8; from++) {
            for (int to = from + 1; to <= 9; to++) {
                SleeperBerths x = new SleeperBerths();
                x.book(0, 9, true);
                x.book(from, to, true);
                int berth = x.passenger(1, 4);
                x.cancel(1);
                for (int leg = 0; leg <= 8; leg++) {
                    Check.due("holder behind cancel(1)", x.holder(berth, leg), NONE);
                }
                Check.due("pairs", x.count(5), 9);
                Check.due("passengers", x.count(0), 1);
            }
        }
        SleeperBerths x = States.withOneWhoChanges();
        x.cancel(18);
        Check.due("the first berth is left", x.whyNot(0, 4), 0);
        Check.due("the second berth is left", x.whyNot(4, 9), 0);
        Check.due("the others stay", x.count(5), 16 * 9 + 9);
        SleeperBerths y = States.full();
        y.cancel(0);
        y.cancel(17);
        y.cancel(9);
        for (int place = 0; place < 15; place++) {
            Check.due("by numbers, without gaps", y.passenger(place, 0), place < 8 ? place + 1 : place + 2);
            Check.due("with their berths", y.passenger(place, 4), place < 8 ? place + 1 : place + 2);
        }
        Check.due("behind the last", y.passenger(15, 0), NONE);
    }

    // ---- promise 4

    private static void placeBerth() {
        Check.sentence("berth: 0 to 17");
        for (int berth = 0; berth <= 17; berth++) {
            SleeperBerths x = new SleeperBerths();
            x.book(2, 6, false);
            Check.due("place(0, " + berth + ")", x.place(0, berth), 0);
            for (int leg = 0; leg <= 8; leg++) {
                Check.due("holder(" + berth + ", " + leg + ")", x.holder(berth, leg), 2 <= leg && leg <= 5 ? 0 : NONE);
            }
            Check.due("pairs", x.count(5), 4);
        }
        int[] wrong = {-1, 18, 19, Check.LEAST, Check.GREATEST};
        for (int berth : wrong) {
            Check.refused("place(0, " + berth + ")", Check.BOUNDS, States::crowdOfTwo, x -> x.place(0, berth));
            Check.refused("place(1, " + berth + ")", Check.BOUNDS, States::crowdOfTwo, x -> x.place(1, berth));
        }
    }

    private static void placeReturns() {
        Check.sentence("Returns the berth that the passenger had on the first leg of the way.");
        SleeperBerths x = new SleeperBerths();
        x.book(3, 4, false);
        int[] berths = {17, 0, 9, 9, 8, 17};
        int before = 0;
        for (int berth : berths) {
            Check.due("place(0, " + berth + ")", x.place(0, berth), before);
            before = berth;
        }
        SleeperBerths y = States.withOneWhoChanges();
        y.cancel(17);
        Check.due("one who changes", y.place(18, 17), 0);
        Check.due("and again", y.place(18, 17), 17);
    }

    private static void placeWholeWay() {
        Check.sentence("Gives a passenger one berth for the whole way.");
        SleeperBerths x = States.withOneWhoChanges();
        x.cancel(0);
        Check.due("into the first berth of two", x.place(18, 0), 0);
        Check.due("the second one is left", x.whyNot(4, 9), 0);
        Check.due("no change", x.passenger(17, 6), NONE);
        Check.due("the first berth", x.passenger(17, 4), 0);
        Check.due("the last berth", x.passenger(17, 5), 0);
        x.undo();
        x.undo();
        x.cancel(2);
        Check.due("into the second berth of two", x.place(18, 2), 0);
        Check.due("the first one is left", x.whyNot(0, 4), 0);
        for (int leg = 0; leg <= 8; leg++) {
            Check.due("holder(2, " + leg + ")", x.holder(2, leg), 18);
        }
        Check.due("those who change", x.count(2), 0);
        Check.due("no booking", x.count(6), 19);
    }

    private static void placeNoSuch() {
        Check.sentence("place ... Throws IndexOutOfBoundsException if there is no such passenger or berth");
        int[] wrong = {-1, 2, 40, Check.LEAST, Check.GREATEST};
        for (int number : wrong) {
            Check.refused("place(" + number + ", 5)", Check.BOUNDS, States::crowdOfTwo, x -> x.place(number, 5));
        }
        Check.refused("neither", Check.BOUNDS, SleeperBerths::new, x -> x.place(-1, 18));
        Check.refused("one that is gone", Check.BOUNDS, States::mixed, x -> x.place(16, 16));
        Check.refused("paid through, as it is named first", Check.BOUNDS, States::full, x -> x.place(0, 18));
        Check.refused("paid through, as it is named first", Check.BOUNDS, States::full, x -> x.place(0, -1));
        Check.refused("no such passenger, and the berth is another's", Check.BOUNDS, States::full, x -> x.place(18, 0));
    }

    private static void placePaidThrough() {
        Check.sentence("Throws IllegalStateException if the passenger has paid through and has another berth");
        for (int berth = 1; berth <= 17; berth++) {
            int there = berth;
            Check.refused("place(0, " + berth + ")", Check.STATE, EdgesOfPassengers::onePaid, x -> x.place(0, there));
        }
        SleeperBerths x = onePaid();
        Check.due("has this berth", x.place(0, 0), 0);
        Check.due("saved, though it changes nothing", x.count(8), 2);
        SleeperBerths y = States.full();
        Check.due("the highest berth", y.place(17, 17), 17);
    }

    private static SleeperBerths onePaid() {
        SleeperBerths x = new SleeperBerths();
        x.book(0, 9, true);
        return x;
    }

    private static void placeCoachNotSoFar() {
        Check.sentence("or, on any leg of the way, the coach does not go so far");
        for (int to = 2; to <= 9; to++) {
            int last = to;
            SleeperBerths x = coachOneGoesTo(to, to);
            Check.due("just so far", x.place(0, 11), 0);
            Check.refused("one leg less", Check.STATE, () -> coachOneGoesTo(last - 1, last), y -> y.place(0, 11));
            Check.refused("the first leg alone", Check.STATE, () -> coachOneGoesTo(1, last), y -> y.place(0, 6));
        }
        Check.refused("no leg at all", Check.STATE, EdgesOfPassengers::behindTheCut, x -> x.place(0, 6));
        Check.due("another coach", behindTheCut().place(0, 12), 0);
    }

    private static SleeperBerths coachOneGoesTo(int station, int to) {
        SleeperBerths x = new SleeperBerths();
        x.book(0, to, false);
        x.cut(1, station);
        return x;
    }

    private static SleeperBerths behindTheCut() {
        SleeperBerths x = new SleeperBerths();
        x.book(7, 9, false);
        x.cut(1, 7);
        return x;
    }

    private static void placeAnotherHasIt() {
        Check.sentence("or another passenger has the berth");
        for (int leg = 0; leg <= 8; leg++) {
            int one = leg;
            if (2 <= leg && leg <= 5) {
                Check.refused("another one on leg " + leg, Check.STATE, () -> oneInBerth13(one), x -> x.place(0, 13));
            } else {
                Check.due("another one on leg " + leg, oneInBerth13(leg).place(0, 13), 0);
            }
        }
        SleeperBerths x = States.withOneWhoChanges();
        Check.dueTold("over one who changes, the first half", Check.told(x, y -> y.place(0, 0)), "0");
        Check.dueTold("the second half", Check.told(x, y -> y.place(2, 2)), "2");
        Check.dueTold("on the whole way", Check.told(x, y -> y.place(18, 0)), "throws.IllegalStateException");
        Check.dueTold("on the whole way", Check.told(x, y -> y.place(18, 2)), "throws.IllegalStateException");
    }

    private static SleeperBerths oneInBerth13(int leg) {
        SleeperBerths x = new SleeperBerths();
        x.book(2, 6, false);
        States.seat(x, leg, leg + 1, 13);
        return x;
    }

    // ---- promise 5

    private static void rebookLess() {
        Check.sentence("Returns by how many stations less the passenger is woken (below 0: more).");
        SleeperBerths x = new SleeperBerths();
        States.seat(x, 0, 9, 0);
        for (int leg = 0; leg <= 8; leg++) {
            States.seat(x, leg, leg + 1, 1);
        }
        Check.due("8 less", x.rebook(0), 8);
        Check.due("none less", x.rebook(0), 0);
        SleeperBerths y = States.byDay("0: 4-9", "2: 0-4", "5: 0-1 1-2 2-3 3-4 4-5 5-6 6-7 7-8 8-9");
        int number = y.book(0, 9, false);
        y.cancel(4);
        Check.due("8 more", y.rebook(number), -8);
        Check.due("in one berth", y.passenger(y.count(0) - 1, 4), 4);
        Check.due("on the whole way", y.passenger(y.count(0) - 1, 6), NONE);
        SleeperBerths z = new SleeperBerths();
        States.seat(z, 0, 9, 4);
        States.seat(z, 5, 9, 5);
        Check.due("1 less", z.rebook(0), 1);
    }

    private static void rebookAsCancelledAndBooked() {
        Check.sentence("as if the passenger were cancelled and then booked again");
        SleeperBerths x = States.berths("9:", "13:");
        int low = States.seat(x, 0, 9, 13);
        x.rebook(low);
        Check.due("the lowest berth", x.passenger(x.count(0) - 1, 4), 9);
        x.rebook(low);
        Check.due("his own berth is free for him", x.passenger(x.count(0) - 1, 4), 9);
        Check.due("bookings, also anew", x.count(6), 19);
        SleeperBerths y = States.byDay("0: 4-9", "2: 0-4");
        int changes = y.book(0, 9, false);
        Check.due("his own two berths are free for him", y.rebook(changes), 0);
        Check.due("the same station", y.passenger(18, 6), 4);
        Check.due("the same first berth", y.passenger(18, 4), 0);
        Check.due("the same second berth", y.passenger(18, 5), 2);
        SleeperBerths z = States.forty();
        States.write(z, "7-9");
        z.cancel(39);
        z.bookAll();
        Check.due("one of 40", z.rebook(40), 0);
        Check.due("still 40", z.count(0), 40);
    }

    private static void rebookSameNumber() {
        Check.sentence("with the same number");
        SleeperBerths x = new SleeperBerths();
        for (int number = 0; number < 5; number++) {
            States.seat(x, 0, 9, 17 - number);
        }
        Check.due("rebook(2)", x.rebook(2), 0);
        int[] berths = {17, 16, 0, 14, 13};
        for (int place = 0; place < 5; place++) {
            Check.due("number", x.passenger(place, 0), place);
            Check.due("berth", x.passenger(place, 4), berths[place]);
        }
        Check.due("holder(0, 0)", x.holder(0, 0), 2);
        Check.due("holder(15, 8)", x.holder(15, 8), NONE);
        Check.due("the next number", x.book(0, 9, false), 5);
    }

    private static void rebookNoSuch() {
        Check.sentence("rebook ... Throws IndexOutOfBoundsException if there is no such passenger");
        int[] wrong = {-1, 18, 40, Check.LEAST, Check.GREATEST};
        for (int number : wrong) {
            Check.refused("rebook(" + number + ")", Check.BOUNDS, States::full, x -> x.rebook(number));
        }
        Check.refused("one that is gone", Check.BOUNDS, States::mixed, x -> x.rebook(16));
        Check.refused("one that is gone and had paid through", Check.BOUNDS, EdgesOfPassengers::onePaidGone, x -> x.rebook(0));
        Check.due("the first", States.berths().rebook(0), 0);
        Check.due("the last", States.berths().rebook(17), 0);
    }

    private static SleeperBerths onePaidGone() {
        SleeperBerths x = onePaid();
        x.cancel(0);
        return x;
    }

    private static void rebookPaidThrough() {
        Check.sentence("Throws IllegalStateException if the passenger has paid through");
        Check.refused("rebook(0)", Check.STATE, EdgesOfPassengers::onePaid, x -> x.rebook(0));
        Check.refused("rebook(17)", Check.STATE, States::full, x -> x.rebook(17));
    }

    private static void rebookRefused() {
        Check.sentence("or the booking would be refused");
        Check.refused("night at the change now", Check.STATE, () -> changesNight(4, 4), x -> x.rebook(18));
        Check.refused("night at all stations", Check.STATE, () -> changesNight(0, 9), x -> x.rebook(18));
        Check.due("night up to the station ahead", changesNight(0, 3).rebook(18), 0);
        Check.due("night from the station behind on", changesNight(5, 9).rebook(18), 0);
        Check.due("never", changesNight(5, 4).rebook(18), 0);
    }

    private static SleeperBerths changesNight(int first, int last) {
        SleeperBerths x = States.withOneWhoChanges();
        States.night(x, first, last);
        return x;
    }
}
