/** Promises 13 to 18: each sentence that names an edge, with calls of its own. */
public final class EdgesOfLooks {
    private static final int NONE = Check.NONE;

    public static void main(String[] args) {
        holderBerthAndLeg();
        holderOnTheWay();
        holderNobody();
        passengerPlace();
        passengerWhat();
        passengerNotSoMany();
        passengerProperties();
        passengerArguments();
        countWhat();
        countOfNobody();
        countOfAll();
        countPaidAndChanging();
        countWokenAndTips();
        countBookings();
        countLeftOut();
        countSaved();
        freeLeg();
        freeWhat();
        freeAllAndNone();
        freeLowest();
        freeNamedFirst();
        goesToCoach();
        settingSetting();
        nothingIsChanged();
        Check.end("EdgesOfLooks");
    }

    // ---- promise 13

    private static void holderBerthAndLeg() {
        Check.sentence("holder ... berth: 0 to 17; leg: 0 to 8; Throws IndexOutOfBoundsException if there is no such berth or leg");
        SleeperBerths x = States.full();
        Check.due("holder(0, 0)", x.holder(0, 0), 0);
        Check.due("holder(0, 8)", x.holder(0, 8), 0);
        Check.due("holder(17, 0)", x.holder(17, 0), 17);
        Check.due("holder(17, 8)", x.holder(17, 8), 17);
        int[] berths = {-1, 18, 162, Check.LEAST, Check.GREATEST};
        int[] legs = {-1, 9, 10, Check.LEAST, Check.GREATEST};
        for (int berth : berths) {
            Check.refused("holder(" + berth + ", 0)", Check.BOUNDS, States::full, y -> y.holder(berth, 0));
            Check.refused("holder(" + berth + ", 8)", Check.BOUNDS, States::full, y -> y.holder(berth, 8));
            Check.refused("holder(" + berth + ", 9)", Check.BOUNDS, States::full, y -> y.holder(berth, 9));
        }
        for (int leg : legs) {
            Check.refused("holder(0, " + leg + ")", Check.BOUNDS, States::full, y -> y.holder(0, leg));
            Check.refused("holder(1, " + leg + ")", Check.BOUNDS, States::full, y -> y.holder(1, leg));
            Check.refused("holder(17, " + leg + ")", Check.BOUNDS, States::full, y -> y.holder(17, leg));
        }
    }

    private static void holderOnTheWay() {
        Check.sentence("Returns the number of the passenger");
        for (int berth = 0; berth <= 17; berth++) {
            SleeperBerths x = new SleeperBerths();
            States.seat(x, 1, 4, berth);
            States.seat(x, 4, 8, berth);
            int[] want = {NONE, 0, 0, 0, 1, 1, 1, 1, NONE};
            for (int leg = 0; leg <= 8; leg++) {
                Check.due("holder(" + berth + ", " + leg + ")", x.holder(berth, leg), want[leg]);
            }
        }
        SleeperBerths x = States.mixed();
        Check.due("not the place, but the number", x.holder(16, 3), 20);
        Check.due("not the place, but the number", x.holder(17, 0), 19);
    }

    private static void holderNobody() {
        Check.sentence("NONE if nobody has it on this leg");
        SleeperBerths x = new SleeperBerths();
        x.cut(0, 3);
        for (int berth = 0; berth <= 17; berth++) {
            for (int leg = 0; leg <= 8; leg++) {
                Check.due("holder(" + berth + ", " + leg + ")", x.holder(berth, leg), NONE);
            }
        }
        SleeperBerths y = States.full();
        y.cancel(5);
        Check.due("holder(5, 4) of one that is gone", y.holder(5, 4), NONE);
    }

    // ---- promise 14

    private static void passengerPlace() {
        Check.sentence("place: the place by numbers, from 0");
        SleeperBerths x = States.mixed();
        Check.due("passengers", x.count(0), 19);
        for (int place = 0; place <= 15; place++) {
            Check.due("passenger(" + place + ", 0)", x.passenger(place, 0), place);
        }
        Check.due("passenger(16, 0)", x.passenger(16, 0), 18);
        Check.due("passenger(17, 0)", x.passenger(17, 0), 19);
        Check.due("passenger(18, 0)", x.passenger(18, 0), 20);
        Check.due("passenger(19, 0)", x.passenger(19, 0), NONE);
        Check.due("passenger(20, 0), a number, but no place", x.passenger(20, 0), NONE);
    }

    private static void passengerWhat() {
        Check.sentence("Throws IllegalArgumentException if place is below 0, or what is not 0 to 8");
        int[] wrong = {-1, 9, 10, Check.LEAST, Check.GREATEST};
        for (int what : wrong) {
            Check.refused("passenger(0, " + what + ")", Check.ARGUMENT, States::full, x -> x.passenger(0, what));
            Check.refused("passenger(1, " + what + ")", Check.ARGUMENT, States::full, x -> x.passenger(1, what));
            Check.refused("passenger(99, " + what + "), where nobody is", Check.ARGUMENT, States::full, x -> x.passenger(99, what));
        }
        for (int place : new int[] {-1, -2, Check.LEAST}) {
            for (int what : new int[] {0, 8, 9}) {
                Check.refused("passenger(" + place + ", " + what + ")", Check.ARGUMENT, States::full, x -> x.passenger(place, what));
                Check.refused("passenger(" + place + ", " + what + ")", Check.ARGUMENT, SleeperBerths::new, x -> x.passenger(place, what));
            }
        }
    }

    private static void passengerNotSoMany() {
        Check.sentence("NONE if there are not so many passengers");
        for (int passengers = 0; passengers <= 40; passengers++) {
            SleeperBerths x = States.crowd(passengers);
            Check.due("the last", x.passenger(Math.max(0, passengers - 1), 0), passengers - 1);
            for (int what = 0; what <= 8; what++) {
                Check.due("behind the last", x.passenger(passengers, what), NONE);
                Check.due("far behind", x.passenger(Check.GREATEST, what), NONE);
            }
        }
        SleeperBerths y = States.forty();
        y.cancel(39);
        Check.due("one that is gone", y.passenger(39, 2), NONE);
        y.undo();
        Check.due("and is back", y.passenger(39, 2), 3);
    }

    private static void passengerProperties() {
        Check.sentence("0: the number; 1: the first station; 2: the last one; 3: 1 if paid through, otherwise 0; 4: the berth on the first leg; 5: the berth on the last leg; 6: the station at which the berth is changed, NONE if it is not; 7: stations at which the passenger is woken; 8: the tip");
        SleeperBerths x = States.byDay("0: 8-9", "1: 0-7 7-9", "3: 0-8", "17:");
        properties("who changes at 8, and is woken at 7", x, x.book(0, 9, false), 0, 9, 0, 17, 17, NONE, 0, 10);
        properties("who changes at 8, and is woken at 7", x, x.book(0, 9, false), 0, 9, 0, 0, 3, 8, 1, 6);
        SleeperBerths y = new SleeperBerths();
        properties("the first leg", y, y.book(0, 1, true), 0, 1, 1, 0, 0, NONE, 0, 10);
        properties("the last leg", y, y.book(8, 9, true), 8, 9, 1, 0, 0, NONE, 0, 10);
        properties("beside both", y, States.seat(y, 0, 9, 1), 0, 9, 0, 1, 1, NONE, 2, 8);
        properties("the last berth", y, States.seat(y, 4, 6, 17), 4, 6, 0, 17, 17, NONE, 0, 10);
        SleeperBerths z = States.byDay("16: 0-1", "2: 1-9");
        properties("who changes at 1 to a higher berth", z, z.book(0, 9, false), 0, 9, 0, 2, 16, 1, 0, 7);
    }

    private static void properties(String who, SleeperBerths x, int number, int... want) {
        int place = x.count(0) - 1;
        Check.due("the number of one " + who, x.passenger(place, 0), number);
        for (int what = 1; what <= 8; what++) {
            Check.due("passenger(" + place + ", " + what + "), one " + who, x.passenger(place, what), want[what - 1]);
        }
    }

    private static void passengerArguments() {
        Check.sentence("If several exceptions apply: both arguments of passenger are wrong");
        Check.refused("passenger(-1, -1)", Check.ARGUMENT, SleeperBerths::new, x -> x.passenger(-1, -1));
        Check.refused("passenger(-1, 9)", Check.ARGUMENT, States::forty, x -> x.passenger(-1, 9));
    }

    // ---- promise 15

    private static void countWhat() {
        Check.sentence("count ... Throws IllegalArgumentException if what is not 0 to 8");
        int[] wrong = {-1, 9, 10, Check.LEAST, Check.GREATEST};
        for (int what : wrong) {
            Check.refused("count(" + what + ")", Check.ARGUMENT, SleeperBerths::new, x -> x.count(what));
            Check.refused("count(" + what + ")", Check.ARGUMENT, States::mixed, x -> x.count(what));
        }
        int[] want = {19, 2, 1, 4, 12 * 19 - 4 - 3, 14 * 9 + 5 + 4 + 9 + 9 + 4, 21, 2, 6};
        for (int what = 0; what <= 8; what++) {
            Check.due("count(" + what + ")", States.mixed().count(what), want[what]);
        }
    }

    private static void countOfNobody() {
        Check.sentence("0: passengers ... 5: pairs of a berth and a leg that are had (nobody there)");
        SleeperBerths x = new SleeperBerths();
        x.book(0, 9, true);
        x.cancel(0);
        for (int what = 0; what <= 5; what++) {
            Check.due("count(" + what + ")", x.count(what), 0);
        }
        Check.due("bookings", x.count(6), 1);
        Check.due("saved states", x.count(8), 2);
    }

    private static void countOfAll() {
        Check.sentence("0: passengers; 5: pairs of a berth and a leg that are had (all full)");
        SleeperBerths x = States.full();
        Check.due("passengers", x.count(0), 18);
        Check.due("pairs", x.count(5), 162);
        x.cancel(0);
        Check.due("pairs", x.count(5), 153);
        SleeperBerths y = States.forty();
        Check.due("passengers", y.count(0), 40);
        Check.due("pairs", y.count(5), 40);
        y.cut(0, 3);
        Check.due("cut coaches change no pairs", y.count(5), 40);
    }

    private static void countPaidAndChanging() {
        Check.sentence("1: those who paid through; 2: those who change the berth");
        Check.due("all paid through", States.full().count(1), 18);
        Check.due("all 40 paid through", States.forty().count(1), 40);
        Check.due("none paid through", States.berths().count(1), 0);
        Check.due("none changes", States.berths().count(2), 0);
        SleeperBerths x = States.byDay("0: 5-9", "2: 0-5", "4: 5-9", "6: 0-5", "8: 5-9", "10: 0-5");
        for (int changing = 1; changing <= 3; changing++) {
            x.book(0, 9, false);
            Check.due("those who change", x.count(2), changing);
        }
        x.cancel(20);
        Check.due("one of them gone", x.count(2), 2);
        x.cancel(4);
        x.place(19, 4);
        Check.due("one of them in one berth", x.count(2), 1);
        x.undo();
        Check.due("undone", x.count(2), 2);
        SleeperBerths y = States.withOneWhoChanges();
        for (int number = 0; number <= 17; number++) {
            Check.due("the last of " + y.count(0), y.count(2), 1);
            y.cancel(number);
        }
        Check.due("the only one", y.count(2), 1);
        SleeperBerths z = States.full();
        for (int number = 0; number <= 16; number++) {
            z.cancel(number);
        }
        Check.due("the only one paid through", z.count(1), 1);
    }

    private static void countWokenAndTips() {
        Check.sentence("3: stations at which passengers are woken, all together; 4: tips, all together");
        SleeperBerths x = new SleeperBerths();
        for (int leg = 0; leg <= 8; leg++) {
            States.seat(x, leg, leg + 1, 1);
        }
        Check.due("ways of one leg", x.count(3), 0);
        States.seat(x, 0, 9, 0);
        Check.due("one of them beside all", x.count(3), 8);
        Check.due("tips", x.count(4), 92);
        x.set(2, 5);
        Check.due("a tip below 0 takes none from the others", x.count(4), 45);
        x.set(2, 0);
        Check.due("no tips", x.count(4), 0);
        SleeperBerths y = States.forty();
        y.set(2, 50);
        Check.due("the greatest tips of 40", y.count(4), 2000);
    }

    private static void countBookings() {
        Check.sentence("6: bookings so far (also anew)");
        SleeperBerths x = new SleeperBerths();
        x.book(0, 9, false);
        Check.due("book()", x.count(6), 1);
        x.rebook(0);
        Check.due("rebook()", x.count(6), 2);
        States.write(x, "0-1;9-9");
        Check.dueTold("bookAll()", Check.told(x, SleeperBerths::bookAll), "throws.IllegalArgumentException");
        Check.due("bookAll() that throws", x.count(6), 2);
        x.clearBuffer();
        States.write(x, "0-1;0-9!");
        x.bookAll();
        Check.due("bookAll() of two", x.count(6), 4);
        x.ifBooked(0, 9, true, 0);
        x.place(0, 17);
        x.cut(1, 5);
        x.set(2, 3);
        x.cancel(0);
        Check.due("no others", x.count(6), 4);
        x.undo();
        Check.due("undo() of another", x.count(6), 4);
        x.undo();
        x.undo();
        x.undo();
        x.undo();
        Check.due("undo() of bookAll()", x.count(6), 2);
    }

    private static void countLeftOut() {
        Check.sentence("7: bookings that were left out by bookAll() so far");
        SleeperBerths x = States.full();
        Check.dueTold("book()", Check.told(x, y -> y.book(0, 1, true)), "throws.IllegalStateException");
        Check.due("not those that book() refuses", x.count(7), 0);
        States.write(x, "0-1;0-9!");
        x.bookAll();
        Check.due("two", x.count(7), 2);
        States.write(x, "0-1;0-1;0-1;0-1;0-1;0-1;0-1;0-1;0-1;0-1;0-1;0-1;0-1;0-1;0-1");
        x.bookAll();
        Check.due("and fifteen", x.count(7), 17);
        x.undo();
        Check.due("undone", x.count(7), 2);
        x.cancel(0);
        Check.due("so far", x.count(7), 2);
    }

    private static void countSaved() {
        Check.sentence("8: saved states");
        SleeperBerths x = new SleeperBerths();
        for (int saves = 1; saves <= 8; saves++) {
            x.set(0, saves);
            Check.due("count(8)", x.count(8), Math.min(6, saves));
        }
        for (int left = 5; left >= 0; left--) {
            x.undo();
            Check.due("count(8)", x.count(8), left);
        }
    }

    // ---- promise 16

    private static void freeLeg() {
        Check.sentence("free ... leg: 0 to 8; Throws IndexOutOfBoundsException if there is no such leg");
        SleeperBerths x = new SleeperBerths();
        Check.due("free(0, 0)", x.free(0, 0), 18);
        Check.due("free(8, 0)", x.free(8, 0), 18);
        int[] wrong = {-1, 9, 10, Check.LEAST, Check.GREATEST};
        for (int leg : wrong) {
            Check.refused("free(" + leg + ", 0)", Check.BOUNDS, SleeperBerths::new, y -> y.free(leg, 0));
            Check.refused("free(" + leg + ", 1)", Check.BOUNDS, States::full, y -> y.free(leg, 1));
        }
    }

    private static void freeWhat() {
        Check.sentence("Throws IllegalArgumentException if what is not 0 or 1");
        int[] wrong = {-1, 2, Check.LEAST, Check.GREATEST};
        for (int what : wrong) {
            Check.refused("free(0, " + what + ")", Check.ARGUMENT, SleeperBerths::new, y -> y.free(0, what));
            Check.refused("free(8, " + what + ")", Check.ARGUMENT, States::full, y -> y.free(8, what));
        }
    }

    private static void freeAllAndNone() {
        Check.sentence("0: how many");
        for (int had = 0; had <= 18; had++) {
            SleeperBerths x = new SleeperBerths();
            States.bookTimes(x, had, 3, 5);
            for (int leg = 0; leg <= 8; leg++) {
                Check.due("free(" + leg + ", 0)", x.free(leg, 0), leg == 3 || leg == 4 ? 18 - had : 18);
            }
        }
        for (int station = 1; station <= 9; station++) {
            SleeperBerths x = new SleeperBerths();
            x.book(0, 1, true);
            x.cut(0, station);
            x.cut(1, Math.max(1, station - 1));
            x.cut(2, 1);
            for (int leg = 0; leg <= 8; leg++) {
                int want = leg == 0 ? 17 : (leg < station ? 6 : 0) + (leg < station - 1 ? 6 : 0);
                Check.due("free(" + leg + ", 0), cut at " + station, x.free(leg, 0), want);
            }
        }
    }

    private static void freeLowest() {
        Check.sentence("1: the lowest one, NONE if there is none");
        for (int had = 0; had <= 18; had++) {
            SleeperBerths x = new SleeperBerths();
            States.bookTimes(x, had, 3, 5);
            Check.due("free(4, 1)", x.free(4, 1), had == 18 ? NONE : had);
            Check.due("free(5, 1)", x.free(5, 1), 0);
        }
        for (int berth = 0; berth <= 17; berth++) {
            SleeperBerths x = States.full();
            x.cancel(berth);
            Check.due("free(0, 1)", x.free(0, 1), berth);
            Check.due("free(0, 0)", x.free(0, 0), 1);
        }
        SleeperBerths x = new SleeperBerths();
        x.cut(0, 2);
        x.cut(1, 3);
        x.cut(2, 4);
        int[] lowest = {0, 0, 6, 12, NONE, NONE, NONE, NONE, NONE};
        for (int leg = 0; leg <= 8; leg++) {
            Check.due("free(" + leg + ", 1)", x.free(leg, 1), lowest[leg]);
        }
    }

    private static void freeNamedFirst() {
        Check.sentence("If several exceptions apply, the one that is named first in the throws clause is thrown: free");
        Check.refused("free(9, 2)", Check.BOUNDS, SleeperBerths::new, x -> x.free(9, 2));
        Check.refused("free(-1, -1)", Check.BOUNDS, States::full, x -> x.free(-1, -1));
    }

    // ---- promises 17 and 18

    private static void goesToCoach() {
        Check.sentence("goesTo ... Throws IndexOutOfBoundsException if there is no such coach");
        int[] wrong = {-1, 3, 9, Check.LEAST, Check.GREATEST};
        for (int coach : wrong) {
            Check.refused("goesTo(" + coach + ")", Check.BOUNDS, SleeperBerths::new, x -> x.goesTo(coach));
            Check.refused("goesTo(" + coach + ")", Check.BOUNDS, States::mixed, x -> x.goesTo(coach));
        }
        for (int station = 1; station <= 9; station++) {
            SleeperBerths x = new SleeperBerths();
            Check.due("at first", x.goesTo(2), 9);
            x.cut(0, station);
            x.cut(2, 10 - station);
            Check.due("goesTo(0)", x.goesTo(0), station);
            Check.due("goesTo(1)", x.goesTo(1), 9);
            Check.due("goesTo(2)", x.goesTo(2), 10 - station);
        }
    }

    private static void settingSetting() {
        Check.sentence("setting ... Throws IndexOutOfBoundsException if there is no such setting");
        int[] wrong = {-1, 3, 10, Check.LEAST, Check.GREATEST};
        for (int setting : wrong) {
            Check.refused("setting(" + setting + ")", Check.BOUNDS, SleeperBerths::new, x -> x.setting(setting));
            Check.refused("setting(" + setting + ")", Check.BOUNDS, States::mixed, x -> x.setting(setting));
        }
        SleeperBerths x = new SleeperBerths();
        Check.due("setting(0)", x.setting(0), 3);
        Check.due("setting(1)", x.setting(1), 6);
        Check.due("setting(2)", x.setting(2), 10);
        x.set(1, 0);
        x.set(2, 50);
        x.set(0, 9);
        Check.due("setting(0)", x.setting(0), 9);
        Check.due("setting(1)", x.setting(1), 0);
        Check.due("setting(2)", x.setting(2), 50);
    }

    private static void nothingIsChanged() {
        Check.sentence("---- looks; nothing is changed");
        SleeperBerths x = States.mixed();
        long before = x.digest();
        Check.Call[] looks = {
            y -> y.holder(0, 8), y -> y.holder(16, 0), y -> y.passenger(0, 8), y -> y.passenger(99, 0), y -> y.count(3), y -> y.count(4),
            y -> y.free(0, 0), y -> y.free(8, 1), y -> y.goesTo(2), y -> y.setting(2), y -> y.passenger(16, 7),
        };
        for (int look = 0; look < looks.length; look++) {
            Check.due("look " + look + " again", looks[look].on(x), looks[look].on(x));
            Check.due("digest() behind look " + look, x.digest(), before);
        }
        SleeperBerths twin = States.mixed();
        Check.due("the next number", x.book(0, 3, false), twin.book(0, 3, false));
        for (int left = 5; left >= 0; left--) {
            Check.due("undo()", x.undo(), left);
            twin.undo();
            Check.due("digest()", x.digest(), twin.digest());
        }
    }
}
