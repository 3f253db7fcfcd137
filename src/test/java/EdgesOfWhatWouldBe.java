/** Promises 19 to 23: each sentence that names an edge, with calls of its own. */
public final class EdgesOfWhatWouldBe {
    private static final int NONE = Check.NONE;

    public static void main(String[] args) {
        ifFrom();
        ifTo();
        ifWhat();
        ifBerths();
        ifRefused();
        ifNotChanged();
        ifWoken();
        ifForty();
        ifAsBooked();
        ifPaidThrough();
        whyFromAndTo();
        whyFound();
        whyNoCoach();
        whyOneCoachFull();
        whyNoBerthOnALeg();
        whyNotOnAll();
        whyFirstThatApplies();
        whyAsBooked();
        farthestFrom();
        farthestGreatest();
        farthestNone();
        farthestAsBooked();
        fullnessEmptyAndFull();
        fullnessDivided();
        digestStart();
        digestList();
        digestEachPart();
        digestBits();
        digestBuffer();
        nothingIsChanged();
        Check.end("EdgesOfWhatWouldBe");
    }

    // ---- promise 19

    private static void ifBookedIs(String what, SleeperBerths x, int from, int to, boolean isThrough, int... want) {
        for (int index = 0; index <= 3; index++) {
            Check.due(what + ": ifBooked(" + from + ", " + to + ", " + isThrough + ", " + index + ")", x.ifBooked(from, to, isThrough, index), want[index]);
        }
    }

    private static void ifFrom() {
        Check.sentence("ifBooked ... from: 0 to 8");
        ifBookedIs("the least", new SleeperBerths(), 0, 9, true, 1, 0, NONE, 0);
        ifBookedIs("the greatest", new SleeperBerths(), 8, 9, false, 1, 0, NONE, 0);
        int[] wrong = {-1, 9, Check.LEAST, Check.GREATEST};
        for (int from : wrong) {
            Check.refused("ifBooked(" + from + ", 9, true, 0)", Check.ARGUMENT, SleeperBerths::new, x -> x.ifBooked(from, 9, true, 0));
            Check.refused("ifBooked(" + from + ", 9, false, 3)", Check.ARGUMENT, States::full, x -> x.ifBooked(from, 9, false, 3));
        }
    }

    private static void ifTo() {
        Check.sentence("ifBooked ... to: from + 1 to 9");
        for (int from = 0; from <= 8; from++) {
            int first = from;
            ifBookedIs("the least", new SleeperBerths(), from, from + 1, true, 1, 0, NONE, 0);
            ifBookedIs("the greatest", new SleeperBerths(), from, 9, true, 1, 0, NONE, 0);
            int[] wrong = {from, from - 1, 10, Check.LEAST, Check.GREATEST};
            for (int to : wrong) {
                Check.refused("ifBooked(" + from + ", " + to + ", true, 0)", Check.ARGUMENT, SleeperBerths::new, x -> x.ifBooked(first, to, true, 0));
            }
        }
    }

    private static void ifWhat() {
        Check.sentence("ifBooked ... Throws IllegalArgumentException if from, to or what is out of range");
        int[] wrong = {-1, 4, 5, Check.LEAST, Check.GREATEST};
        for (int what : wrong) {
            Check.refused("ifBooked(0, 9, true, " + what + ")", Check.ARGUMENT, SleeperBerths::new, x -> x.ifBooked(0, 9, true, what));
            Check.refused("ifBooked(0, 9, false, " + what + "), though refused", Check.ARGUMENT, States::full, x -> x.ifBooked(0, 9, false, what));
            Check.refused("ifBooked(0, 9, false, " + what + "), though changed", Check.ARGUMENT, () -> States.byDay("0: 4-9", "2: 0-4"), x -> x.ifBooked(0, 9, false, what));
        }
        Check.refused("ifBooked(9, 10, true, 4)", Check.ARGUMENT, States::forty, x -> x.ifBooked(9, 10, true, 4));
    }

    private static void ifBerths() {
        Check.sentence("0: berths that the passenger would have, 0 if the booking would be refused");
        ifBookedIs("one", States.berths("17:"), 0, 9, true, 1, 17, NONE, 0);
        ifBookedIs("one", States.berths("17:"), 0, 9, false, 1, 17, NONE, 0);
        ifBookedIs("two", States.byDay("0: 4-9", "2: 0-4"), 0, 9, false, 2, 0, 4, 0);
        ifBookedIs("two", States.byDay("17: 8-9", "16: 0-8"), 0, 9, false, 2, 17, 8, 0);
        ifBookedIs("none", States.byDay("0: 4-9", "2: 0-4"), 0, 9, true, 0, NONE, NONE, NONE);
        ifBookedIs("none", States.full(), 4, 5, false, 0, NONE, NONE, NONE);
    }

    private static void ifRefused() {
        Check.sentence("NONE for 1 to 3 if it would be refused");
        ifBookedIs("all full, paid through", States.full(), 0, 9, true, 0, NONE, NONE, NONE);
        ifBookedIs("all full, not paid through", States.full(), 0, 9, false, 0, NONE, NONE, NONE);
        ifBookedIs("night", States.berths("0: 4-9", "2: 0-4"), 0, 9, false, 0, NONE, NONE, NONE);
        SleeperBerths x = new SleeperBerths();
        x.cut(0, 1);
        x.cut(1, 1);
        x.cut(2, 1);
        ifBookedIs("cut off", x, 1, 2, false, 0, NONE, NONE, NONE);
        ifBookedIs("cut off", x, 0, 2, false, 0, NONE, NONE, NONE);
        ifBookedIs("not so far", x, 0, 1, false, 1, 0, NONE, 0);
    }

    private static void ifNotChanged() {
        Check.sentence("and for 2 if the berth would not be changed");
        SleeperBerths x = new SleeperBerths();
        for (int to = 1; to <= 9; to++) {
            Check.due("ifBooked(0, " + to + ", false, 2)", x.ifBooked(0, to, false, 2), NONE);
            Check.due("ifBooked(0, " + to + ", true, 2)", x.ifBooked(0, to, true, 2), NONE);
        }
        for (int station = 1; station <= 8; station++) {
            SleeperBerths y = States.byDay("3: " + station + "-9", "8: 0-" + station);
            ifBookedIs("changed", y, 0, 9, false, 2, 3, station, 0);
            ifBookedIs("up to the change", y, 0, station, false, 1, 3, NONE, 0);
            ifBookedIs("from the change on", y, station, 9, false, 1, 8, NONE, 0);
        }
    }

    private static void ifWoken() {
        Check.sentence("3: stations at which the passenger would be woken");
        SleeperBerths x = States.byDay("0:", "1: 0-1 1-2 2-3 3-4 4-5 5-6 6-7 7-8 8-9");
        for (int from = 0; from <= 8; from++) {
            for (int to = from + 1; to <= 9; to++) {
                ifBookedIs("at each station between", x, from, to, true, 1, 0, NONE, to - from - 1);
            }
        }
        SleeperBerths y = States.byDay("0: 6-9", "1: 0-2 2-6 6-9", "4: 0-6", "5: 0-6 6-8 8-9");
        ifBookedIs("once in the first, once in the second, not at the change", y, 0, 9, false, 2, 0, 6, 2);
        ifBookedIs("once in the first", y, 0, 8, false, 2, 0, 6, 1);
        ifBookedIs("not at the first station", y, 2, 8, false, 2, 0, 6, 0);
    }

    private static void ifForty() {
        Check.sentence("(whether there are 40 passengers does not matter)");
        SleeperBerths x = States.forty();
        ifBookedIs("40, and berths are left", x, 3, 9, true, 1, 0, NONE, 0);
        ifBookedIs("40, and berths are left", x, 3, 9, false, 1, 0, NONE, 0);
        ifBookedIs("40, and none is left", x, 0, 9, false, 0, NONE, NONE, NONE);
        Check.due("whyNot(3, 9)", x.whyNot(3, 9), 0);
        Check.due("farthest(3)", x.farthest(3), 9);
    }

    private static void ifAsBooked() {
        Check.sentence("Tells what a booking would bring.");
        SleeperBerths x = States.byDay("0: 5-9", "1: 0-3 3-9", "8: 0-4", "13: 2-6");
        int[][] ways = {{0, 9}, {0, 4}, {4, 9}, {5, 6}, {0, 2}, {6, 9}, {0, 5}, {4, 8}};
        for (int[] way : ways) {
            int berths = x.ifBooked(way[0], way[1], false, 0);
            if (berths == 0) {
                Check.dueTold("book()", Check.told(x, y -> y.book(way[0], way[1], false)), "throws.IllegalStateException");
            } else {
                int first = x.ifBooked(way[0], way[1], false, 1);
                int change = x.ifBooked(way[0], way[1], false, 2);
                int woken = x.ifBooked(way[0], way[1], false, 3);
                x.book(way[0], way[1], false);
                int place = x.count(0) - 1;
                Check.due("the first berth", x.passenger(place, 4), first);
                Check.due("the change", x.passenger(place, 6), change);
                Check.due("woken", x.passenger(place, 7), woken);
                Check.due("berths", x.passenger(place, 4) == x.passenger(place, 5) ? 1 : 2, berths);
                x.undo();
            }
        }
    }

    private static void ifPaidThrough() {
        Check.sentence("whether the passenger would have paid through");
        for (int from = 0; from <= 7; from++) {
            for (int to = from + 2; to <= 9; to++) {
                for (int station = from + 1; station < to; station++) {
                    SleeperBerths x = States.byDay("6: " + station + "-9", "13: 0-" + station);
                    ifBookedIs("paid through", x, from, to, true, 0, NONE, NONE, NONE);
                    ifBookedIs("not paid through", x, from, to, false, 2, 6, station, 0);
                    ifBookedIs("up to there, paid through", x, from, station, true, 1, 6, NONE, 0);
                    ifBookedIs("up to there, not paid through", x, from, station, false, 1, 6, NONE, 0);
                }
            }
        }
    }

    // ---- promise 20

    private static void whyFromAndTo() {
        Check.sentence("whyNot ... Throws IllegalArgumentException if from or to is out of range");
        for (int from = 0; from <= 8; from++) {
            int first = from;
            Check.due("the least", new SleeperBerths().whyNot(from, from + 1), 0);
            Check.due("the greatest", new SleeperBerths().whyNot(from, 9), 0);
            int[] wrong = {from, from - 1, 10, Check.LEAST, Check.GREATEST};
            for (int to : wrong) {
                Check.refused("whyNot(" + from + ", " + to + ")", Check.ARGUMENT, SleeperBerths::new, x -> x.whyNot(first, to));
                Check.refused("whyNot(" + from + ", " + to + ")", Check.ARGUMENT, States::full, x -> x.whyNot(first, to));
            }
        }
        int[] wrong = {-1, 9, Check.LEAST, Check.GREATEST};
        for (int from : wrong) {
            Check.refused("whyNot(" + from + ", 9)", Check.ARGUMENT, SleeperBerths::new, x -> x.whyNot(from, 9));
        }
        Check.refused("whyNot(9, 10)", Check.ARGUMENT, SleeperBerths::new, x -> x.whyNot(9, 10));
        Check.refused("whyNot(-1, 0)", Check.ARGUMENT, SleeperBerths::new, x -> x.whyNot(-1, 0));
    }

    private static void whyFound() {
        Check.sentence("0: one would be found");
        for (int berth = 0; berth <= 17; berth++) {
            SleeperBerths x = States.full();
            Check.due("all full", x.whyNot(0, 9), 2);
            x.cancel(berth);
            Check.due("one left", x.whyNot(0, 9), 0);
            Check.due("one left", x.whyNot(4, 5), 0);
        }
        SleeperBerths x = new SleeperBerths();
        x.cut(0, 1);
        x.cut(1, 1);
        Check.due("the last coach goes so far", x.whyNot(0, 9), 0);
    }

    private static void whyNoCoach() {
        Check.sentence("1: no coach goes so far");
        for (int farthest = 1; farthest <= 9; farthest++) {
            for (int coach = 0; coach <= 2; coach++) {
                SleeperBerths x = new SleeperBerths();
                for (int other = 0; other <= 2; other++) {
                    x.cut(other, other == coach ? farthest : 1);
                }
                for (int to = 1; to <= 9; to++) {
                    Check.due("whyNot(0, " + to + "), as far as " + farthest, x.whyNot(0, to), to <= farthest ? 0 : 1);
                }
                for (int from = farthest; from <= 8; from++) {
                    Check.due("whyNot(" + from + ", 9), as far as " + farthest, x.whyNot(from, 9), farthest == 9 ? 0 : 1);
                }
            }
        }
    }

    private static void whyOneCoachFull() {
        Check.sentence("1: no coach goes so far; 2: on some leg of the way no berth can be had");
        for (int coach = 0; coach <= 2; coach++) {
            SleeperBerths x = new SleeperBerths();
            for (int other = 0; other <= 2; other++) {
                x.cut(other, other == coach ? 6 : 5);
            }
            States.bookTimes(x, 6, 5, 6);
            Check.due("coach " + coach + " alone goes so far, but is full there", x.whyNot(0, 6), 2);
            Check.due("coach " + coach + " alone, the leg alone", x.whyNot(5, 6), 2);
            Check.due("up to there", x.whyNot(0, 5), 0);
            Check.due("farther none goes", x.whyNot(0, 7), 1);
        }
    }

    private static void whyNoBerthOnALeg() {
        Check.sentence("2: on some leg of the way no berth can be had");
        for (int leg = 0; leg <= 8; leg++) {
            SleeperBerths x = new SleeperBerths();
            States.bookTimes(x, 17, leg, leg + 1);
            Check.due("17 of 18", x.whyNot(0, 9), 0);
            x.book(leg, leg + 1, true);
            for (int from = 0; from <= 8; from++) {
                for (int to = from + 1; to <= 9; to++) {
                    Check.due("whyNot(" + from + ", " + to + "), leg " + leg, x.whyNot(from, to), from <= leg && leg < to ? 2 : 0);
                }
            }
        }
        SleeperBerths x = new SleeperBerths();
        x.cut(0, 4);
        x.cut(1, 4);
        States.bookTimes(x, 6, 4, 5);
        Check.due("two coaches are cut off, and the third is full there", x.whyNot(0, 5), 2);
        Check.due("up to there", x.whyNot(0, 4), 0);
        Check.due("from there on", x.whyNot(5, 9), 0);
    }

    private static void whyNotOnAll() {
        Check.sentence("3: no berth can be had on all of them");
        for (int station = 1; station <= 8; station++) {
            SleeperBerths x = States.byDay("3: " + station + "-9", "8: 0-" + station);
            Check.due("each leg has one", x.whyNot(0, 9), 3);
            Check.due("up to there", x.whyNot(0, station), 0);
            Check.due("from there on", x.whyNot(station, 9), 0);
            Check.due("just round it", x.whyNot(station - 1, station + 1), 3);
            Check.due("though one who changes could", x.ifBooked(0, 9, false, 0), 2);
        }
        SleeperBerths x = new SleeperBerths();
        x.cut(0, 4);
        x.cut(1, 4);
        States.bookTimes(x, 12, 0, 1);
        States.seat(x, 0, 1, 12);
        for (int berth = 13; berth <= 17; berth++) {
            States.seat(x, 0, 1, berth);
        }
        x.cancel(0);
        Check.due("berth 0 goes not so far, others are had on leg 0", x.whyNot(0, 9), 3);
    }

    private static void whyFirstThatApplies() {
        Check.sentence("otherwise the first one that applies");
        SleeperBerths x = new SleeperBerths();
        x.cut(0, 4);
        x.cut(1, 4);
        x.cut(2, 4);
        States.bookTimes(x, 18, 0, 1);
        Check.due("1 and 2 and 3", x.whyNot(0, 5), 1);
        Check.due("2 and 3", x.whyNot(0, 4), 2);
        Check.due("none", x.whyNot(1, 4), 0);
        Check.due("1 and 3, and 2 as nothing goes there", x.whyNot(1, 5), 1);
        SleeperBerths y = States.byDay("3: 4-9", "8: 0-5");
        Check.due("2 and 3", y.whyNot(0, 9), 2);
    }

    private static final Check.Start[] STARTS = {
        SleeperBerths::new,
        States::full,
        States::mixed,
        States::withOneWhoChanges,
        () -> States.crowd(17),
        () -> States.crowd(39),
        () -> States.byDay("3: 4-9", "8: 0-5"),
        () -> States.byDay("0: 5-9", "1: 0-3 3-9", "8: 0-4", "13: 2-6"),
        EdgesOfWhatWouldBe::cutInSteps,
    };

    private static SleeperBerths cutInSteps() {
        SleeperBerths x = new SleeperBerths();
        x.cut(0, 3);
        x.cut(1, 6);
        x.cut(2, 8);
        States.bookTimes(x, 6, 6, 8);
        x.cancel(2);
        States.seat(x, 6, 7, 14);
        return x;
    }

    /** Books one who has paid through and takes it back; the answer is whether that was to be had. */
    private static boolean canBeBooked(SleeperBerths x, int from, int to) {
        boolean isBooked = !Check.told(x, y -> y.book(from, to, true)).startsWith("throws.");
        if (isBooked) {
            x.undo();
        }
        return isBooked;
    }

    private static void whyAsBooked() {
        Check.sentence("Tells why no berth would be found for a passenger who has paid through.");
        for (int start = 0; start < STARTS.length; start++) {
            SleeperBerths x = STARTS[start].make();
            for (int from = 0; from <= 8; from++) {
                for (int to = from + 1; to <= 9; to++) {
                    String way = "state " + start + ", " + from + "-" + to;
                    boolean isFound = x.whyNot(from, to) == 0;
                    Check.due(way + ", found and booked", isFound ? 1 : 0, canBeBooked(x, from, to) ? 1 : 0);
                    Check.due(way + ", found and would be booked", isFound ? 1 : 0, x.ifBooked(from, to, true, 0));
                }
            }
        }
    }

    // ---- promise 21

    private static void farthestFrom() {
        Check.sentence("farthest ... from: 0 to 8; Throws IllegalArgumentException if from is out of range");
        SleeperBerths x = new SleeperBerths();
        for (int from = 0; from <= 8; from++) {
            Check.due("farthest(" + from + ")", x.farthest(from), 9);
        }
        int[] wrong = {-1, 9, 10, Check.LEAST, Check.GREATEST};
        for (int from : wrong) {
            Check.refused("farthest(" + from + ")", Check.ARGUMENT, SleeperBerths::new, y -> y.farthest(from));
            Check.refused("farthest(" + from + ")", Check.ARGUMENT, States::full, y -> y.farthest(from));
        }
    }

    private static void farthestGreatest() {
        Check.sentence("Returns the greatest station to which whyNot() is 0 from this one");
        for (int berth = 0; berth <= 17; berth++) {
            for (int station = 1; station <= 8; station++) {
                SleeperBerths x = States.berths(berth + ": " + station + "-9");
                Check.due("farthest(0)", x.farthest(0), station);
                Check.due("farthest(" + (station - 1) + ")", x.farthest(station - 1), station);
                Check.due("farthest(" + station + ")", x.farthest(station), station);
            }
        }
        SleeperBerths x = States.berths("2: 3-9", "5: 7-9", "9: 0-1 5-9");
        int[] want = {7, 7, 7, 7, 7, 7, 7, 7, 8};
        for (int from = 0; from <= 8; from++) {
            Check.due("farthest(" + from + ")", x.farthest(from), want[from]);
        }
        SleeperBerths y = new SleeperBerths();
        y.cut(0, 3);
        y.cut(1, 6);
        y.cut(2, 5);
        for (int from = 0; from <= 8; from++) {
            Check.due("farthest(" + from + ")", y.farthest(from), Math.max(from, 6));
        }
    }

    private static void farthestNone() {
        Check.sentence("from, if there is none");
        for (int from = 0; from <= 8; from++) {
            Check.due("all full, farthest(" + from + ")", States.full().farthest(from), from);
            SleeperBerths x = new SleeperBerths();
            States.bookTimes(x, 18, from, from + 1);
            for (int other = 0; other <= 8; other++) {
                int want = other > from ? 9 : from;
                Check.due("leg " + from + " full, farthest(" + other + ")", x.farthest(other), want);
            }
        }
    }

    private static void farthestAsBooked() {
        Check.sentence("Finds the longest way that could still be booked by one who has paid through.");
        for (int start = 0; start < STARTS.length; start++) {
            SleeperBerths x = STARTS[start].make();
            for (int from = 0; from <= 8; from++) {
                int farthest = from;
                for (int to = from + 1; to <= 9; to++) {
                    farthest = canBeBooked(x, from, to) ? to : farthest;
                }
                Check.due("state " + start + ", farthest(" + from + ")", x.farthest(from), farthest);
            }
        }
    }

    // ---- promise 22

    private static void fullnessEmptyAndFull() {
        Check.sentence("Returns how full the coaches are.");
        Check.dueBits("nobody there", new SleeperBerths().fullness(), 0.0);
        Check.dueBits("all full", States.full().fullness(), 1.0);
        SleeperBerths x = new SleeperBerths();
        x.cut(0, 1);
        x.cut(1, 1);
        x.cut(2, 1);
        Check.dueBits("nobody there, cut off at 1", x.fullness(), 0.0);
        States.bookTimes(x, 18, 0, 1);
        Check.dueBits("all full, cut off at 1", x.fullness(), 1.0);
        x.cut(2, 9);
        Check.dueBits("one goes on", x.fullness(), 18.0 / 66.0);
        for (int passenger = 0; passenger < 18; passenger++) {
            x.cancel(passenger);
        }
        Check.dueBits("nobody there any more", x.fullness(), 0.0);
    }

    private static void fullnessDivided() {
        Check.sentence("the pairs of a berth and a leg that are had, as a double, divided by the sum of these and of those that can be had");
        SleeperBerths x = new SleeperBerths();
        int had = 0;
        for (int passenger = 0; passenger < 36; passenger++) {
            int from = passenger % 9;
            x.book(from, from + 1, true);
            had++;
            Check.dueBits("pairs " + had, x.fullness(), (double) had / 162.0);
        }
        int[] sums = {162 - 6 * 5, 162 - 6 * 10, 162 - 6 * 15};
        SleeperBerths y = new SleeperBerths();
        States.bookTimes(y, 7, 0, 1);
        for (int coach = 0; coach <= 2; coach++) {
            y.cut(coach, 4);
            Check.dueBits("cut off at 4, up to coach " + coach, y.fullness(), 7.0 / sums[coach]);
        }
        SleeperBerths z = States.withOneWhoChanges();
        Check.dueBits("one who changes", z.fullness(), 1.0);
        z.cancel(18);
        Check.dueBits("without him", z.fullness(), 153.0 / 162.0);
    }

    // ---- promise 23

    private static void digestStart() {
        Check.sentence("The hash starts at 2999. For each value v of the following list, in order, the hash becomes 31 * hash + v, in long arithmetic with overflow.");
        SleeperBerths x = new SleeperBerths();
        Check.due("of a new one, by its list", x.digest(), Digests.of(SleeperBerths::new, ""));
        Check.due("again", x.digest(), new SleeperBerths().digest());
        long hash = 2999;
        long[] settingsAndCoaches = {0, 0, 0, 0, 0, 0, 0, 0, 0, 3, 6, 10, 9, 9, 9};
        for (long value : settingsAndCoaches) {
            hash = 31 * hash + value;
        }
        for (int pair = 0; pair < 18 * 9; pair++) {
            hash = 31 * hash - 1;
        }
        for (int leg = 0; leg < 9; leg++) {
            hash = 31 * (31 * hash + 18);
        }
        for (int station = 0; station < 9; station++) {
            hash = 31 * (31 * hash + 9);
        }
        long[] wouldBe = {1, 0, -1, 0, 0L, 0};
        for (long value : wouldBe) {
            hash = 31 * hash + value;
        }
        Check.due("of a new one, by hand", x.digest(), hash);
    }

    private static void digestList() {
        Check.sentence("The values are: count(0) to count(8); the settings 0 to 2; how far each coach goes; ... each of its character codes.");
        digestOf("nobody", SleeperBerths::new);
        digestOf("all full", States::full);
        digestOf("40 passengers", States::forty);
        digestOf("one who changes", States::withOneWhoChanges);
        Check.due("some of all", States.mixed().digest(), Digests.of(States::mixed, "3-4!;2"));
        digestOf("one who would change, from 1 to 8", () -> States.byDay("0: 4-9", "2: 0-4"));
        digestOf("one who would change at night alone", () -> States.berths("0: 4-9", "2: 0-4"));
        digestOf("one who would be woken at each station", () -> States.byDay("0:", "1: 0-1 1-2 2-3 3-4 4-5 5-6 6-7 7-8 8-9"));
        digestOf("a berth from 1 to 8 alone", () -> States.byDay("16: 0-1 8-9"));
        digestOf("berths for less than 1 to 8", () -> States.berths("15: 0-2 8-9", "16: 0-1 7-9"));
        for (int station = 1; station <= 9; station++) {
            int last = station;
            digestOf("cut off at " + station, () -> cutOffAt(last, Math.max(1, last - 2), Math.max(1, last - 1)));
        }
    }

    private static SleeperBerths cutOffAt(int... stations) {
        SleeperBerths x = new SleeperBerths();
        for (int coach = 0; coach <= 2; coach++) {
            x.cut(coach, stations[coach]);
        }
        return x;
    }

    private static void digestOf(String what, Check.Start start) {
        Check.due("digest(), " + what, start.make().digest(), Digests.of(start, ""));
    }

    private static void digestEachPart() {
        Check.sentence("Computes a hash of the whole state.");
        Check.Call[] changes = {
            x -> x.set(0, 4), x -> x.set(1, 7), x -> x.set(2, 11), x -> x.cut(0, 9), x -> x.rebook(18), x -> x.append('0'),
            SleeperBerths::undo, x -> x.cancel(0), x -> x.cancel(18), SleeperBerths::clearBuffer, x -> x.place(0, 0),
        };
        long before = digestBegin().digest();
        for (int index = 0; index < changes.length; index++) {
            Check.Call change = changes[index];
            SleeperBerths x = digestBegin();
            change.on(x);
            Check.unlike("digest() ahead of change " + index + " and behind it", x.digest(), before);
            digestOf("change " + index, () -> changedAndCleared(change));
        }
    }

    /** Less than six states are saved, so that the next one counts. */
    private static SleeperBerths digestBegin() {
        SleeperBerths x = States.withOneWhoChanges();
        x.cut(1, 9);
        x.undo();
        x.append('x');
        return x;
    }

    private static SleeperBerths changedAndCleared(Check.Call change) {
        SleeperBerths x = digestBegin();
        change.on(x);
        x.clearBuffer();
        return x;
    }

    private static void digestBits() {
        Check.sentence("the bits of fullness (as Double.doubleToLongBits)");
        for (int passengers = 0; passengers <= 40; passengers++) {
            int had = passengers;
            digestOf(had + " of 162", () -> States.crowd(had));
            digestOf(had + " of 66", () -> crowdCutAt(1, 1, 9, had));
            digestOf(had + " of 114", () -> crowdCutAt(1, 9, 9, had));
            digestOf(had + " of 120, and less than 40 legs", () -> crowdCutAt(9, 9, 2, had));
        }
        digestOf("the least share that is not 0", EdgesOfWhatWouldBe::one);
        digestOf("the greatest that is not 1", () -> States.berths("9: 0-4 5-9"));
        digestOf("half of all", EdgesOfWhatWouldBe::halfFull);
        digestOf("a quarter of all", EdgesOfWhatWouldBe::quarterFull);
    }

    private static void digestOf(String what, Check.Start start, String buffer) {
        Check.due("digest(), " + what, start.make().digest(), Digests.of(start, buffer));
    }

    private static SleeperBerths crowdCutAt(int first, int second, int third, int passengers) {
        SleeperBerths x = cutOffAt(first, second, third);
        for (int leg = 0; leg <= 8; leg++) {
            while (x.count(0) < passengers && x.whyNot(leg, leg + 1) == 0) {
                x.book(leg, leg + 1, true);
            }
        }
        return x;
    }

    private static SleeperBerths one() {
        SleeperBerths x = new SleeperBerths();
        x.book(4, 5, true);
        return x;
    }

    private static SleeperBerths halfFull() {
        SleeperBerths x = new SleeperBerths();
        States.bookTimes(x, 9, 0, 9);
        return x;
    }

    private static SleeperBerths quarterFull() {
        SleeperBerths x = cutOffAt(4, 4, 4);
        States.bookTimes(x, 18, 2, 3);
        return x;
    }

    private static void digestBuffer() {
        Check.sentence("the length of the buffer and each of its character codes");
        StringBuilder text = new StringBuilder();
        for (int length = 0; length <= 60; length++) {
            String written = text.toString();
            digestOf("with " + length + " characters", () -> States.written(written), written);
            text.append((char) (33 + (length * 37) % 94));
        }
        SleeperBerths x = States.written("3-4!;2");
        x.clearBuffer();
        Check.due("digest() behind clearBuffer()", x.digest(), new SleeperBerths().digest());
        Check.unlike("digests of 12 and 21", States.written("12").digest(), States.written("21").digest());
        Check.unlike("digests of ! and \"", States.written("!").digest(), States.written("\"").digest());
    }

    private static void nothingIsChanged() {
        Check.sentence("---- what would be; nothing is changed");
        SleeperBerths x = States.mixed();
        long before = x.digest();
        Check.Call[] calls = {
            y -> y.ifBooked(0, 9, false, 0), y -> y.ifBooked(0, 3, true, 3), y -> y.ifBooked(7, 9, false, 1), y -> y.whyNot(0, 9), y -> y.whyNot(0, 3),
            y -> y.farthest(0), y -> y.farthest(8), y -> (long) (y.fullness() * 1000), SleeperBerths::digest,
        };
        for (int call = 0; call < calls.length; call++) {
            Check.due("call " + call + " again", calls[call].on(x), calls[call].on(x));
            Check.due("digest() behind call " + call, x.digest(), before);
        }
        SleeperBerths twin = States.mixed();
        Check.due("the next number", x.book(0, 3, false), twin.book(0, 3, false));
        for (int left = 5; left >= 0; left--) {
            Check.due("undo()", x.undo(), left);
            twin.undo();
            Check.due("digest()", x.digest(), twin.digest());
        }
    }
}
