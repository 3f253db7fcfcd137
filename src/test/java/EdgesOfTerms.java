/** The sentences under "Terms" of the document that name an edge, each with calls of its own. */
public final class EdgesOfTerms {
    private static final int NONE = Check.NONE;

    public static void main(String[] args) {
        use();
        legs();
        coaches();
        neighbours();
        coachEnds();
        numbers();
        wayStays();
        oneBerthOrTwo();
        notThreeBerths();
        noBerthTwice();
        night();
        nightAtOneStation();
        wokenByOneNeighbour();
        wokenByTheSameOne();
        wokenByUnlikeOnes();
        wokenNotAtTheChange();
        wokenByNeighboursWhoChange();
        tipOfOneWoken();
        tipOfOneWhoChanges();
        leastWoken();
        lowestBerth();
        wholeWayFirst();
        changeOnlyUnpaid();
        changeStrictlyBetween();
        changeLeastWoken();
        changeLowest();
        changeRefused();
        settings();
        undoableCalls();
        callsNotUndoable();
        sixSaved();
        allButTheBuffer();
        Check.end("EdgesOfTerms");
    }

    private static void use() {
        Check.sentence("An object is used for at most 512 calls after it has been made");
        SleeperBerths x = new SleeperBerths();
        for (int pair = 0; pair < 254; pair++) {
            Check.due("book(0, 9, true)", x.book(0, 9, true), pair);
            Check.due("cancel(" + pair + ")", x.cancel(pair), 10);
        }
        Check.due("call 509", x.count(6), 254);
        Check.due("call 510", x.book(8, 9, false), 254);
        Check.due("call 511", x.passenger(0, 0), 254);
        Check.due("call 512", x.undo(), 5);
    }

    // ---- stations, berths

    private static void legs() {
        Check.sentence("There are the stations 0 to 9, and the legs 0 to 8; the leg s goes from the station s to the station s + 1.");
        for (int from = 0; from <= 8; from++) {
            for (int to = from + 1; to <= 9; to++) {
                SleeperBerths x = new SleeperBerths();
                x.book(from, to, true);
                for (int leg = 0; leg <= 8; leg++) {
                    boolean isOnTheWay = from <= leg && leg + 1 <= to;
                    Check.due("holder(0, " + leg + ") on " + from + "-" + to, x.holder(0, leg), isOnTheWay ? 0 : NONE);
                }
                Check.due("legs of " + from + "-" + to, x.count(5), to - from);
            }
        }
    }

    private static void coaches() {
        Check.sentence("There are 3 coaches, numbered from 0, with 6 berths each: the berths 0 to 17, those of the coach c from 6 * c on.");
        for (int coach = 0; coach <= 2; coach++) {
            SleeperBerths x = new SleeperBerths();
            x.cut(coach, 5);
            x.book(0, 6, false);
            for (int berth = 0; berth <= 17; berth++) {
                int there = berth;
                boolean isOfTheCoach = 6 * coach <= berth && berth <= 6 * coach + 5;
                boolean isRefused = Check.told(x, y -> y.place(0, there)).startsWith("throws");
                Check.due("berth " + berth + " is of coach " + coach, isRefused ? 1 : 0, isOfTheCoach ? 1 : 0);
            }
            Check.due("free(4, 0)", x.free(4, 0), 17);
            Check.due("free(5, 0)", x.free(5, 0), 11);
        }
        SleeperBerths x = new SleeperBerths();
        for (int berth = 0; berth <= 17; berth++) {
            x.book(0, 9, true);
            Check.due("berth of the passenger " + berth, x.passenger(berth, 4), berth);
        }
        Check.due("no berth 18", x.whyNot(0, 9), 2);
    }

    private static void neighbours() {
        Check.sentence("The berths 2 * k and 2 * k + 1 are neighbours, in one compartment.");
        for (int berth = 0; berth <= 17; berth++) {
            for (int other = 0; other <= 17; other++) {
                if (other != berth) {
                    SleeperBerths x = new SleeperBerths();
                    States.seat(x, 0, 9, berth);
                    States.seat(x, 4, 9, other);
                    int want = other == States.beside(berth) ? 1 : 0;
                    Check.due("woken in " + berth + " by one who comes into " + other, x.passenger(0, 7), want);
                }
            }
        }
    }

    private static void coachEnds() {
        Check.sentence("A coach goes as far as a station, 1 to 9, at first 9: there it is cut off, and its berths cannot be had on the legs behind.");
        for (int station = 1; station <= 9; station++) {
            SleeperBerths x = new SleeperBerths();
            Check.due("at first", x.cut(1, station), 9);
            for (int leg = 0; leg <= 8; leg++) {
                Check.due("free(" + leg + ", 0), cut at " + station, x.free(leg, 0), leg < station ? 18 : 12);
            }
            States.seat(x, 0, station, 6);
            Check.due("had up to there", x.holder(6, station - 1), 0);
        }
        for (int station = 2; station <= 9; station++) {
            int way = station;
            Check.refused("berth 6 cut off at " + (station - 1), Check.STATE, () -> cutAndBooked(way), x -> x.place(0, 6));
        }
    }

    private static SleeperBerths cutAndBooked(int to) {
        SleeperBerths x = new SleeperBerths();
        x.cut(1, to - 1);
        x.book(0, to, false);
        return x;
    }

    private static void numbers() {
        Check.sentence("the passengers are numbered from 0 in the order in which they came, also those that are gone");
        SleeperBerths x = new SleeperBerths();
        Check.due("the first", x.book(0, 9, true), 0);
        Check.due("the second", x.book(0, 9, false), 1);
        x.cancel(1);
        Check.due("behind one that is gone", x.book(0, 9, true), 2);
        x.cancel(2);
        x.cancel(0);
        Check.due("behind all that are gone", x.book(0, 9, true), 3);
        Check.due("he is the only one", x.count(0), 1);
        States.write(x, "0-9;3-4");
        x.bookAll();
        Check.due("those of a text", x.passenger(1, 0), 4);
        Check.due("those of a text", x.passenger(2, 0), 5);
        x.rebook(5);
        Check.due("rebook() gives no number", x.book(0, 1, true), 6);
        x.undo();
        Check.due("undo() takes the number back", x.book(0, 1, true), 6);

        SleeperBerths y = States.full();
        Check.dueTold("book()", Check.told(y, z -> z.book(0, 1, false)), "throws.IllegalStateException");
        States.write(y, "0-1;2-3");
        y.bookAll();
        y.cancel(0);
        Check.due("one who is refused or left out has no number", y.book(0, 1, true), 18);
    }

    private static void wayStays() {
        Check.sentence("A passenger ... goes from a station to a later one, and has paid through, or not.");
        for (int from = 0; from <= 8; from++) {
            for (int to = from + 1; to <= 9; to++) {
                SleeperBerths x = new SleeperBerths();
                int unpaid = States.seat(x, from, to, 17);
                int paid = x.book(from, to, true);
                x.place(unpaid, 9);
                x.rebook(unpaid);
                x.place(paid, x.passenger(1, 4));
                x.cut(2, 1);
                x.set(2, 50);
                x.undo();
                for (int place = 0; place <= 1; place++) {
                    Check.due("the first station", x.passenger(place, 1), from);
                    Check.due("the last one", x.passenger(place, 2), to);
                    Check.due("paid through", x.passenger(place, 3), place);
                }
            }
        }
        SleeperBerths y = States.withOneWhoChanges();
        y.rebook(18);
        Check.due("one who changes, the first station", y.passenger(18, 1), 0);
        Check.due("one who changes, the last one", y.passenger(18, 2), 9);
        Check.due("one who changes has not paid through", y.passenger(18, 3), 0);
    }

    private static void oneBerthOrTwo() {
        Check.sentence("A passenger has one berth on all legs of the way, or, only one who has not paid through, one berth up to a station on the way, and another one from there on.");
        SleeperBerths x = States.byDay("0: 4-9", "2: 0-4");
        Check.dueTold("one who has paid through", Check.told(x, y -> y.book(0, 9, true)), "throws.IllegalStateException");
        Check.due("one who has not", x.book(0, 9, false), 18);
        for (int leg = 0; leg <= 8; leg++) {
            Check.due("holder(0, " + leg + ")", x.holder(0, leg), leg < 4 ? 18 : 0);
            Check.due("holder(2, " + leg + ")", x.holder(2, leg), leg < 4 ? 2 : 18);
        }
        Check.due("the first berth", x.passenger(18, 4), 0);
        Check.due("the last one", x.passenger(18, 5), 2);
        Check.due("up to", x.passenger(18, 6), 4);
    }

    private static void notThreeBerths() {
        Check.sentence("one berth up to a station on the way, and another one from there on");
        SleeperBerths x = States.byDay("0: 3-9", "2: 0-3 6-9", "4: 0-6");
        Check.due("berth 0, 2 and 4 one behind the other would be three", x.ifBooked(0, 9, false, 0), 0);
        Check.due("two of them", x.ifBooked(0, 6, false, 0), 2);
        Check.due("the other two", x.ifBooked(3, 9, false, 0), 2);
        x = States.byDay("0: 3-9", "2: 0-2", "4:0-9");
        Check.due("it may change at either of the stations where both can be had", x.ifBooked(0, 9, false, 2), 2);
    }

    private static void noBerthTwice() {
        Check.sentence("No berth has two passengers on the same leg.");
        SleeperBerths x = new SleeperBerths();
        for (int leg = 0; leg <= 8; leg++) {
            States.seat(x, leg, leg + 1, 3);
        }
        Check.due("nine, one behind the other, in one berth", x.count(5), 9);
        x.book(0, 9, false);
        x.book(4, 5, false);
        Check.dueTold("over all", Check.told(x, y -> y.place(9, 3)), "throws.IllegalStateException");
        Check.dueTold("over one", Check.told(x, y -> y.place(10, 3)), "throws.IllegalStateException");
        for (int leg = 0; leg <= 8; leg++) {
            Check.due("holder(3, " + leg + ")", x.holder(3, leg), leg);
        }
        SleeperBerths y = States.full();
        for (int berth = 0; berth <= 17; berth++) {
            for (int leg = 0; leg <= 8; leg++) {
                Check.due("holder(" + berth + ", " + leg + ")", y.holder(berth, leg), berth);
            }
        }
    }

    /** A change could be at each of the stations 1 to 8, in which nobody is woken: the lowest that is not night is taken. */
    private static void night() {
        Check.sentence("It is night at the stations from setting 0 to setting 1 (if setting 0 is greater, never): nobody changes the berth there.");
        SleeperBerths x = States.berths("0: 8-9", "2: 0-1");
        for (int first = 0; first <= 9; first++) {
            for (int last = 0; last <= 9; last++) {
                States.night(x, first, last);
                int lowest = NONE;
                for (int station = 8; station >= 1; station--) {
                    boolean isNight = first <= station && station <= last;
                    lowest = isNight ? lowest : station;
                }
                Check.due("changes, night " + first + " to " + last, x.ifBooked(0, 9, false, 2), lowest);
                Check.due("berths, night " + first + " to " + last, x.ifBooked(0, 9, false, 0), lowest == NONE ? 0 : 2);
            }
        }
    }

    private static void nightAtOneStation() {
        Check.sentence("nobody changes the berth there");
        for (int station = 1; station <= 8; station++) {
            SleeperBerths x = States.berths("0: " + station + "-9", "2: 0-" + station);
            int[][] nights = {{station, station, 0}, {station, 9, 0}, {0, station, 0}, {station + 1, 9, 2}, {0, station - 1, 2}, {9, station, 2}, {station + 1, station, 2}, {station, station - 1, 2}};
            for (int[] night : nights) {
                States.night(x, night[0], night[1]);
                Check.due("change at " + station + ", night " + night[0] + " to " + night[1], x.ifBooked(0, 9, false, 0), night[2]);
            }
        }
        SleeperBerths x = new SleeperBerths();
        States.night(x, 0, 9);
        Check.due("one berth can be had at night", x.book(0, 9, false), 0);
    }

    // ---- waking

    private static void wokenByOneNeighbour() {
        Check.sentence("A passenger is woken at a station strictly between the first and the last one of the way");
        for (int from = 0; from <= 8; from++) {
            for (int to = from + 1; to <= 9; to++) {
                for (int comes = 0; comes <= 8; comes++) {
                    for (int goes = comes + 1; goes <= 9; goes++) {
                        SleeperBerths x = new SleeperBerths();
                        States.seat(x, from, to, 8);
                        States.seat(x, comes, goes, 9);
                        int want = (from < comes && comes < to ? 1 : 0) + (from < goes && goes < to ? 1 : 0);
                        Check.due(from + "-" + to + " beside " + comes + "-" + goes, x.passenger(0, 7), want);
                    }
                }
            }
        }
    }

    private static void wokenByTheSameOne() {
        Check.sentence("if the neighbouring berth is not had by the same one (or by nobody) on the leg ahead of the station and on the leg behind it");
        SleeperBerths x = new SleeperBerths();
        States.seat(x, 0, 9, 16);
        Check.due("by nobody all the way", x.passenger(0, 7), 0);
        States.seat(x, 0, 9, 17);
        Check.due("by the same one all the way", x.passenger(0, 7), 0);
        Check.due("nor is the other one", x.passenger(1, 7), 0);
        x.cancel(1);
        States.seat(x, 3, 6, 17);
        Check.due("by nobody, one, and nobody", x.passenger(0, 7), 2);
        Check.due("the other one is not woken on a way within", x.passenger(1, 7), 0);
    }

    private static void wokenByUnlikeOnes() {
        Check.sentence("not had by the same one (or by nobody)");
        SleeperBerths x = new SleeperBerths();
        States.seat(x, 0, 9, 0);
        for (int leg = 0; leg <= 8; leg++) {
            States.seat(x, leg, leg + 1, 1);
            Check.due("others up to station " + (leg + 1), x.passenger(0, 7), Math.min(leg + 1, 8));
        }
        Check.due("at most at all stations between", x.count(3), 8);
        SleeperBerths y = new SleeperBerths();
        States.seat(y, 0, 9, 1);
        States.seat(y, 0, 5, 0);
        States.seat(y, 5, 9, 0);
        Check.due("once where one goes and another one comes", y.passenger(0, 7), 1);
        y.cancel(2);
        Check.due("once where one goes", y.passenger(0, 7), 1);
        y.cancel(1);
        Check.due("not beside nobody", y.passenger(0, 7), 0);
    }

    private static void wokenNotAtTheChange() {
        Check.sentence("at which the passenger does not change the berth");
        SleeperBerths x = States.byDay("0: 4-9", "1: 0-4 4-9", "2: 0-4", "3: 0-4 4-9");
        x.book(0, 9, false);
        int last = x.count(0) - 1;
        Check.due("changes", x.passenger(last, 6), 4);
        Check.due("the neighbours of both berths change there too", x.passenger(last, 7), 0);
        SleeperBerths y = States.byDay("0: 4-9", "1: 0-3 3-5 5-9", "2: 0-4", "3: 0-3 3-5 5-9");
        y.book(0, 9, false);
        last = y.count(0) - 1;
        Check.due("woken at the stations ahead of the change and behind it", y.passenger(last, 7), 2);
        SleeperBerths z = States.byDay("0: 4-9", "1: 0-4");
        z.book(0, 9, false);
        last = z.count(0) - 1;
        Check.due("changes into the neighbouring berth", z.passenger(last, 5), 1);
        Check.due("and is not woken by that", z.passenger(last, 7), 0);
        Check.due("nor are those of the two berths", z.count(3), 0);
    }

    private static void wokenByNeighboursWhoChange() {
        Check.sentence("had by the same one");
        SleeperBerths x = States.withOneWhoChanges();
        Check.due("passenger 1 beside one who changes away, and one who comes", x.passenger(1, 7), 1);
        Check.due("passenger 3 beside one who goes, and one who changes into", x.passenger(3, 7), 1);
        Check.due("nobody else is woken", x.count(3), 2);
        x.cancel(18);
        Check.due("still at 4", x.passenger(1, 7), 1);
    }

    private static void tipOfOneWoken() {
        Check.sentence("The tip of a passenger is setting 2 less 1 for each station at which the passenger is woken ... but not less than 0.");
        SleeperBerths x = new SleeperBerths();
        States.seat(x, 0, 9, 0);
        for (int leg = 0; leg <= 8; leg++) {
            States.seat(x, leg, leg + 1, 1);
        }
        int[][] tips = {{50, 42}, {10, 2}, {9, 1}, {8, 0}, {7, 0}, {1, 0}, {0, 0}};
        for (int[] tip : tips) {
            x.set(2, tip[0]);
            Check.due("woken 8 times of " + tip[0], x.passenger(0, 8), tip[1]);
            Check.due("not woken, of " + tip[0], x.passenger(5, 8), tip[0]);
            Check.due("all together", x.count(4), tip[1] + 9 * tip[0]);
        }
    }

    private static void tipOfOneWhoChanges() {
        Check.sentence("and 3 less if the passenger changes the berth, but not less than 0");
        SleeperBerths x = States.withOneWhoChanges();
        int[][] tips = {{50, 47}, {4, 1}, {3, 0}, {2, 0}, {0, 0}};
        for (int[] tip : tips) {
            x.set(2, tip[0]);
            Check.due("changes, of " + tip[0], x.passenger(18, 8), tip[1]);
        }
        SleeperBerths y = States.byDay("0: 4-9", "1: 0-3 3-9", "2: 0-4");
        int number = y.book(0, 9, false);
        int[][] less = {{50, 46}, {5, 1}, {4, 0}, {3, 0}, {1, 0}};
        for (int[] tip : less) {
            y.set(2, tip[0]);
            Check.due("changes and is woken once, of " + tip[0], y.passenger(number, 8), tip[1]);
        }
    }

    // ---- finding berths

    private static void leastWoken() {
        Check.sentence("of the berths that can be had on all legs of the way, the one in which the passenger would be woken least");
        SleeperBerths x = States.berths("2:", "3: 0-2 2-4 4-9", "8:", "9: 0-2 2-9", "16:", "17: 0-2 2-4 4-6 6-9");
        Check.due("woken twice, once and three times: once", x.ifBooked(0, 9, true, 1), 8);
        Check.due("once", x.ifBooked(0, 9, true, 3), 1);
        Check.due("from 2 on twice less: not", x.ifBooked(2, 9, true, 1), 8);
        Check.due("not", x.ifBooked(2, 9, true, 3), 0);
        SleeperBerths y = States.berths("2:", "3: 0-2 2-4 4-9", "4: 8-9", "16:", "17: 0-2 2-9");
        Check.due("of the whole way alone", y.ifBooked(0, 9, false, 1), 16);
        Check.due("berth 4 up to station 8", y.ifBooked(0, 8, false, 1), 4);
        SleeperBerths z = States.berths("17:", "16: 0-3 3-6 6-9");
        Check.due("the only one, however often woken", z.ifBooked(0, 9, true, 1), 17);
        Check.due("twice", z.ifBooked(0, 9, true, 3), 2);
    }

    private static void lowestBerth() {
        Check.sentence("of several the lowest");
        SleeperBerths x = States.berths("2:", "3: 0-2 2-9", "8:", "9: 0-7 7-9", "16:", "17: 0-5 5-9");
        Check.due("each once: the lowest", x.ifBooked(0, 9, true, 1), 2);
        int number = x.book(0, 9, true);
        Check.due("the next", x.ifBooked(0, 9, true, 1), 8);
        x.book(0, 9, true);
        Check.due("the last", x.ifBooked(0, 9, true, 1), 16);
        x.cancel(number);
        Check.due("the lowest again", x.ifBooked(0, 9, true, 1), 2);
        SleeperBerths y = new SleeperBerths();
        for (int berth = 0; berth <= 17; berth++) {
            Check.due("the lowest that is left", y.ifBooked(0, 9, false, 1), berth);
            y.book(0, 9, false);
        }
        SleeperBerths z = States.berths("16:", "17:");
        Check.due("both of one compartment: the lower", z.ifBooked(0, 9, true, 1), 16);
    }

    private static void wholeWayFirst() {
        Check.sentence("If there is none, and the passenger has not paid through");
        SleeperBerths x = States.byDay("0:", "1: 0-1 1-2 2-3 3-4 4-5 5-6 6-7 7-8 8-9", "2: 5-9", "4: 0-5");
        Check.due("one berth, though two would be calmer", x.ifBooked(0, 9, false, 0), 1);
        Check.due("berth 0", x.ifBooked(0, 9, false, 1), 0);
        Check.due("no change", x.ifBooked(0, 9, false, 2), NONE);
        Check.due("woken at each station", x.ifBooked(0, 9, false, 3), 8);
        x.book(0, 9, true);
        Check.due("two berths, when the one is gone", x.ifBooked(0, 9, false, 0), 2);
        Check.due("not woken", x.ifBooked(0, 9, false, 3), 0);
    }

    private static void changeOnlyUnpaid() {
        Check.sentence("and the passenger has not paid through");
        Check.refused("book(0, 9, true)", Check.STATE, () -> States.byDay("0: 5-9", "2: 0-5"), x -> x.book(0, 9, true));
        SleeperBerths x = States.byDay("0: 5-9", "2: 0-5");
        Check.due("paid through", x.ifBooked(0, 9, true, 0), 0);
        Check.due("not paid through", x.ifBooked(0, 9, false, 0), 2);
    }

    private static void changeStrictlyBetween() {
        Check.sentence("of the stations strictly between where it is not night, and two unlike berths of which the first can be had up to there, and the second from there on");
        for (int from = 0; from <= 8; from++) {
            SleeperBerths x = States.byDay();
            Check.due("nothing between " + from + " and " + (from + 1), x.ifBooked(from, from + 1, false, 0), 0);
        }
        for (int from = 0; from <= 7; from++) {
            SleeperBerths x = States.byDay("5: " + besides(from), "10: " + besides(from + 1));
            Check.due("one station between " + from + " and " + (from + 2), x.ifBooked(from, from + 2, false, 2), from + 1);
            Check.due("first berth", x.ifBooked(from, from + 2, false, 1), 5);
            int number = x.book(from, from + 2, false);
            Check.due("second berth", x.passenger(x.count(0) - 1, 5), 10);
            Check.due("its number", x.passenger(x.count(0) - 1, 0), number);
        }
        SleeperBerths first = States.byDay("3: 1-9", "6: 0-1");
        Check.due("at station 1", first.ifBooked(0, 9, false, 2), 1);
        SleeperBerths last = States.byDay("3: 8-9", "6: 0-8");
        Check.due("at station 8", last.ifBooked(0, 9, false, 2), 8);
        SleeperBerths gap = States.byDay("3: 4-9", "6: 0-5");
        Check.due("neither on leg 4", gap.ifBooked(0, 9, false, 0), 0);
        SleeperBerths cut = States.byDay("3: 0-5", "17:");
        Check.due("berth 17 on the whole way", cut.ifBooked(0, 9, false, 0), 1);
    }

    /** The ways of all legs but one. */
    private static String besides(int leg) {
        StringBuilder ways = new StringBuilder();
        if (leg > 0) {
            ways.append("0-").append(leg).append(' ');
        }
        if (leg < 8) {
            ways.append(leg + 1).append("-9");
        }
        return ways.toString();
    }

    private static void changeIs(String what, SleeperBerths x, int station, int first, int second, int woken) {
        Check.due(what + ": the station", x.ifBooked(0, 9, false, 2), station);
        Check.due(what + ": the first berth", x.ifBooked(0, 9, false, 1), first);
        Check.due(what + ": woken", x.ifBooked(0, 9, false, 3), woken);
        x.book(0, 9, false);
        int place = x.count(0) - 1;
        Check.due(what + ": booked, the station", x.passenger(place, 6), station);
        Check.due(what + ": booked, the first berth", x.passenger(place, 4), first);
        Check.due(what + ": booked, the second berth", x.passenger(place, 5), second);
        Check.due(what + ": booked, woken", x.passenger(place, 7), woken);
    }

    /** First berths 4, 8, 14 up to station 5, second berths 1, 3, 12 from station 4 on; what is told of others comes ahead. */
    private static SleeperBerths threeAndThree(String... told) {
        String[] all = new String[told.length + 6];
        System.arraycopy(told, 0, all, 0, told.length);
        String[] halves = {"4: 5-9", "8: 5-9", "14: 5-9", "1: 0-4", "3: 0-4", "12: 0-4"};
        System.arraycopy(halves, 0, all, told.length, 6);
        return States.byDay(all);
    }

    private static void changeLeastWoken() {
        Check.sentence("those with which the passenger would be woken least");
        changeIs("a higher first berth", threeAndThree("5: 0-2 2-9"), 4, 8, 1, 0);
        changeIs("the highest first berth", threeAndThree("5: 0-2 2-9", "9: 0-3 3-9"), 4, 14, 1, 0);
        changeIs("a higher second berth", threeAndThree("0: 0-7 7-9"), 4, 4, 3, 0);
        changeIs("the highest second berth", threeAndThree("0: 0-7 7-9", "2: 0-8 8-9"), 4, 4, 12, 0);
        changeIs("a higher station", threeAndThree("0: 0-5 5-9", "2: 0-5 5-9", "13: 0-5 5-9"), 5, 4, 1, 0);
        changeIs("once at best", threeAndThree("5: 0-1 1-2 2-9", "9: 0-2 2-9", "15: 0-3 3-9"), 4, 8, 1, 1);
        changeIs("both halves count", threeAndThree("5: 0-1 1-9", "9: 0-2 2-9", "15: 0-3 3-9", "0: 0-7 7-9", "2: 0-7 7-9", "13: 0-7 7-9"), 4, 4, 1, 2);
    }

    private static void changeLowest() {
        Check.sentence("of several the lowest station, then the lowest first berth, then the lowest second one");
        changeIs("not woken in any", threeAndThree(), 4, 4, 1, 0);
        changeIs("once with each: at 4 in the first half, at 5 in the second", threeAndThree("5: 0-4 4-9", "9: 0-4 4-9", "15: 0-4 4-9", "0: 0-5 5-9", "2: 0-5 5-9", "13: 0-5 5-9"), 4, 4, 1, 1);
        changeIs("the lowest station comes ahead of a lower second berth", threeAndThree("1: 0-5", "3: 0-5"), 4, 4, 12, 0);
        changeIs("the lowest first berth, higher than the second one", threeAndThree("4: 0-1 5-9", "8: 0-1 5-9", "14: 0-1 5-9", "6: 4-9", "16: 4-9"), 4, 6, 1, 0);
        changeIs("the second one may be lower or higher than the first", States.byDay("9: 4-9", "11: 0-4", "15: 0-4"), 4, 9, 11, 0);
    }

    private static void changeRefused() {
        Check.sentence("If there are none, the booking is refused.");
        Check.refused("all full", Check.STATE, States::full, x -> x.book(0, 9, false));
        Check.refused("one leg full", Check.STATE, () -> fullOn(4), x -> x.book(0, 9, false));
        Check.refused("the first leg full", Check.STATE, () -> fullOn(0), x -> x.book(0, 9, false));
        Check.refused("the last leg full", Check.STATE, () -> fullOn(8), x -> x.book(0, 9, false));
        Check.refused("all coaches cut off", Check.STATE, EdgesOfTerms::cutAt8, x -> x.book(0, 9, false));
        Check.refused("a change at night alone", Check.STATE, () -> States.berths("0: 4-9", "2: 0-4"), x -> x.book(0, 9, false));
        Check.due("up to a leg that is full", fullOn(4).book(0, 4, false), 18);
        Check.due("behind a leg that is full", fullOn(4).book(5, 9, false), 18);
        Check.due("up to where they are cut off", cutAt8().book(0, 8, false), 0);
    }

    private static SleeperBerths fullOn(int leg) {
        SleeperBerths x = new SleeperBerths();
        States.bookTimes(x, 18, leg, leg + 1);
        return x;
    }

    private static SleeperBerths cutAt8() {
        SleeperBerths x = new SleeperBerths();
        for (int coach = 0; coach <= 2; coach++) {
            x.cut(coach, 8);
        }
        return x;
    }

    // ---- settings, undo

    private static void settings() {
        Check.sentence("0: the first station of the night, 0 to 9, at first 3; 1: the last one, 0 to 9, at first 6; 2: the greatest tip, 0 to 50, at first 10.");
        int[] first = {3, 6, 10};
        int[] greatest = {9, 9, 50};
        for (int setting = 0; setting <= 2; setting++) {
            SleeperBerths x = new SleeperBerths();
            Check.due("at first", x.setting(setting), first[setting]);
            int before = first[setting];
            for (int value = 0; value <= greatest[setting]; value++) {
                Check.due("set(" + setting + ", " + value + ")", x.set(setting, value), before);
                Check.due("setting(" + setting + ")", x.setting(setting), value);
                before = value;
            }
            int index = setting;
            Check.refused("one below the least", Check.ARGUMENT, SleeperBerths::new, y -> y.set(index, -1));
            Check.refused("one above the greatest", Check.ARGUMENT, SleeperBerths::new, y -> y.set(index, greatest[index] + 1));
        }
        SleeperBerths x = States.berths("0: 2-9", "2: 0-2", "4: 7-9", "6: 0-7");
        Check.due("by day at 2, at first", x.ifBooked(0, 9, false, 2), 2);
        SleeperBerths y = States.berths("0: 3-9", "2: 0-3", "4: 7-9", "6: 0-7");
        Check.due("by night at 3, by day at 7, at first", y.ifBooked(0, 9, false, 2), 7);
        SleeperBerths z = States.berths("0: 6-9", "2: 0-6");
        Check.due("by night at 6, at first", z.ifBooked(0, 9, false, 2), NONE);
    }

    private static void undoableCalls() {
        Check.sentence("Each method that is marked \"undoable\" and does not throw an exception saves the state from before it (also if it changes nothing)");
        Check.Call[] calls = {
            x -> x.book(0, 1, true), x -> x.cancel(0), x -> x.place(0, 17), x -> x.place(0, 0), x -> x.place(1, 1), x -> x.rebook(0),
            x -> x.cut(0, 9), x -> x.cut(2, 2), x -> x.set(2, 50), x -> x.set(2, 10), x -> x.set(0, 4), x -> x.set(1, 6),
        };
        for (int index = 0; index < calls.length; index++) {
            savesOne("call " + index, "", calls[index]);
        }
        savesOne("bookAll()", "0-2;1-2!", SleeperBerths::bookAll);
        savesOne("bookAll() of none that could be booked", "0-9;2-3!", SleeperBerths::bookAll);
    }

    private static void savesOne(String what, String text, Check.Call call) {
        SleeperBerths x = withFourSaved();
        States.write(x, text);
        long before = x.digest();
        call.on(x);
        Check.due("saved behind " + what, x.count(8), 5);
        Check.due("undo() of " + what, x.undo(), 4);
        x.clearBuffer();
        States.write(x, text);
        Check.due("digest() behind undo() of " + what, x.digest(), before);
    }

    /** All coaches are cut off at 2, up to where there are two passengers, the second one paid through. */
    private static SleeperBerths withFourSaved() {
        SleeperBerths x = new SleeperBerths();
        x.cut(0, 2);
        x.cut(1, 2);
        x.cut(2, 2);
        States.write(x, "0-2;0-2!");
        x.bookAll();
        return x;
    }

    private static void callsNotUndoable() {
        Check.sentence("Each method that is marked \"undoable\"");
        SleeperBerths x = States.full();
        Check.due("saved", x.count(8), 6);
        x.undo();
        Check.Call[] calls = {
            y -> y.append('0'), SleeperBerths::firstError, SleeperBerths::clearBuffer, y -> y.holder(0, 0), y -> y.passenger(0, 0), y -> y.count(0),
            y -> y.free(0, 0), y -> y.goesTo(0), y -> y.setting(0), y -> y.ifBooked(0, 1, false, 0), y -> y.whyNot(0, 1), y -> y.farthest(0),
            y -> (long) y.fullness(), SleeperBerths::digest,
        };
        for (int index = 0; index < calls.length; index++) {
            calls[index].on(x);
            Check.due("saved behind call " + index, x.count(8), 5);
        }
        Check.due("undo() saves none", x.undo(), 4);
        Check.due("the passengers", x.count(0), 16);
    }

    private static void sixSaved() {
        Check.sentence("At most 6 states are saved; the oldest one is dropped first.");
        for (int saves = 0; saves <= 20; saves++) {
            SleeperBerths x = new SleeperBerths();
            for (int value = 1; value <= saves; value++) {
                x.set(2, 20 + value);
                Check.due("saved behind " + value, x.count(8), Math.min(6, value));
            }
            int left = Math.min(6, saves);
            for (int value = saves - 1; left > 0; value--) {
                left--;
                Check.due("undo()", x.undo(), left);
                Check.due("setting(2)", x.setting(2), value == 0 ? 10 : 20 + value);
            }
            Check.dueTold("one more", Check.told(x, SleeperBerths::undo), "throws.IllegalStateException");
        }
        SleeperBerths x = new SleeperBerths();
        for (int round = 1; round <= 15; round++) {
            x.set(2, 3 * round - 2);
            x.set(2, 3 * round - 1);
            x.set(2, 3 * round);
            Check.due("undo() in round " + round, x.undo(), Math.min(6, round + 2) - 1);
            Check.due("the latest one", x.setting(2), 3 * round - 1);
            x.undo();
            Check.due("the one before", x.setting(2), 3 * round - 2);
        }
    }

    private static void allButTheBuffer() {
        Check.sentence("all, also what is counted so far, but the buffer and the saved states");
        SleeperBerths x = States.mixed();
        long before = x.digest();
        States.write(x, "-4");
        Check.due("bookAll()", x.bookAll(), 0);
        Check.due("left out", x.count(7), 4);
        Check.due("bookings", x.count(6), 21);
        States.write(x, "3-4!;2");
        x.undo();
        Check.due("left out", x.count(7), 2);
        Check.due("saved states", x.count(8), 5);
        Check.due("bookings", x.count(6), 21);
        Check.due("the buffer is that of now", x.clearBuffer(), 6);
        States.write(x, "0-9!;0-9!;0-9");
        x.undo();
        x.undo();
        x.undo();
        Check.due("left out behind bookAll()", x.count(7), 2);
        x.undo();
        Check.due("left out ahead of bookAll()", x.count(7), 0);
        Check.due("bookings", x.count(6), 19);
        Check.due("the buffer is no state", x.clearBuffer(), 13);
        Check.due("the number of the next", x.book(0, 9, true), 19);
        Check.unlike("digests of other states", x.digest(), before);
    }
}
