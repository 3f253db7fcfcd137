/** Promises 6 and 7: each sentence that names an edge, with calls of its own. */
public final class EdgesOfCoaches {
    private static final int NONE = Check.NONE;

    public static void main(String[] args) {
        cutCoach();
        cutStation();
        cutReturns();
        cutLegBehind();
        cutOfTheCoachAlone();
        cutOneWhoChanges();
        cutNamedFirst();
        cutAndBackAgain();
        setSetting();
        setValue();
        setReturns();
        setNamedFirst();
        setBerthsStay();
        Check.end("EdgesOfCoaches");
    }

    // ---- promise 6

    private static void cutCoach() {
        Check.sentence("coach: 0 to 2 ... Throws IndexOutOfBoundsException if there is no such coach");
        for (int coach = 0; coach <= 2; coach++) {
            SleeperBerths x = new SleeperBerths();
            Check.due("cut(" + coach + ", 4)", x.cut(coach, 4), 9);
            for (int other = 0; other <= 2; other++) {
                Check.due("goesTo(" + other + ")", x.goesTo(other), other == coach ? 4 : 9);
            }
        }
        int[] wrong = {-1, 3, 6, 17, Check.LEAST, Check.GREATEST};
        for (int coach : wrong) {
            Check.refused("cut(" + coach + ", 4)", Check.BOUNDS, SleeperBerths::new, x -> x.cut(coach, 4));
            Check.refused("cut(" + coach + ", 9)", Check.BOUNDS, States::mixed, x -> x.cut(coach, 9));
        }
    }

    private static void cutStation() {
        Check.sentence("station: 1 to 9 ... Throws IllegalArgumentException if station is out of range");
        for (int coach = 0; coach <= 2; coach++) {
            int index = coach;
            Check.due("the least", new SleeperBerths().cut(coach, 1), 9);
            Check.due("the greatest", new SleeperBerths().cut(coach, 9), 9);
            int[] wrong = {0, -1, 10, Check.LEAST, Check.GREATEST};
            for (int station : wrong) {
                Check.refused("cut(" + coach + ", " + station + ")", Check.ARGUMENT, SleeperBerths::new, x -> x.cut(index, station));
            }
        }
    }

    private static void cutReturns() {
        Check.sentence("Returns the previous one.");
        for (int coach = 0; coach <= 2; coach++) {
            SleeperBerths x = new SleeperBerths();
            int[] stations = {1, 9, 9, 5, 2, 2, 8, 1, 1, 3, 4, 6, 7};
            int before = 9;
            for (int station : stations) {
                Check.due("cut(" + coach + ", " + station + ")", x.cut(coach, station), before);
                Check.due("goesTo(" + coach + ")", x.goesTo(coach), station);
                before = station;
            }
        }
    }

    private static void cutLegBehind() {
        Check.sentence("Throws IllegalStateException if a passenger has a berth of it on a leg behind");
        for (int berth = 0; berth <= 17; berth++) {
            for (int last = 1; last <= 9; last++) {
                int there = berth;
                int to = last;
                int coach = berth / 6;
                SleeperBerths x = onLeg(last - 1, berth);
                Check.due("just behind the leg " + (last - 1), x.cut(coach, last), 9);
                if (last > 1) {
                    Check.refused("just ahead of the leg " + (last - 1), Check.STATE, () -> onLeg(to - 1, there), y -> y.cut(coach, to - 1));
                    Check.refused("far ahead", Check.STATE, () -> onLeg(to - 1, there), y -> y.cut(coach, 1));
                }
            }
        }
        for (int from = 1; from <= 8; from++) {
            SleeperBerths x = new SleeperBerths();
            x.book(0, from, true);
            x.book(from, 9, true);
            for (int station = 1; station <= 8; station++) {
                int at = station;
                Check.dueTold("one behind the other, cut(0, " + station + ")", Check.told(x, y -> y.cut(0, at)), "throws.IllegalStateException");
            }
            Check.due("but not at the end", x.cut(0, 9), 9);
        }
    }

    private static SleeperBerths onLeg(int leg, int berth) {
        SleeperBerths x = new SleeperBerths();
        States.seat(x, leg, leg + 1, berth);
        return x;
    }

    private static void cutOfTheCoachAlone() {
        Check.sentence("if a passenger has a berth of it");
        for (int coach = 0; coach <= 2; coach++) {
            for (int berth = 0; berth <= 17; berth++) {
                int index = coach;
                SleeperBerths x = onLeg(8, berth);
                String want = berth / 6 == coach ? "throws.IllegalStateException" : "9";
                Check.dueTold("cut(" + coach + ", 8) with berth " + berth, Check.told(x, y -> y.cut(index, 8)), want);
                x.cancel(0);
                Check.due("when nobody has one", x.cut(coach, 1), berth / 6 == coach ? 9 : 8);
            }
        }
    }

    private static void cutOneWhoChanges() {
        Check.sentence("a passenger has a berth of it on a leg behind");
        for (int station = 1; station <= 4; station++) {
            int at = station;
            String want = station < 4 ? "throws.IllegalStateException" : "9";
            SleeperBerths x = changesOverCoaches();
            Check.dueTold("the first berth, cut(0, " + station + ")", Check.told(x, y -> y.cut(0, at)), want);
        }
        for (int station = 1; station <= 8; station++) {
            int at = station;
            Check.refused("the second berth, cut(2, " + station + ")", Check.STATE, EdgesOfCoaches::changesOverCoaches, x -> x.cut(2, at));
        }
        Check.due("the coach between", changesOverCoaches().cut(1, 1), 9);
        SleeperBerths x = changesOverCoaches();
        x.cut(0, 4);
        Check.due("it keeps its berths", x.holder(0, 3), x.passenger(x.count(0) - 1, 0));
        Check.due("it keeps its berths", x.holder(17, 4), x.passenger(x.count(0) - 1, 0));
    }

    /** One alone, who has berth 0 up to station 4, and berth 17 from there on. */
    private static SleeperBerths changesOverCoaches() {
        SleeperBerths x = States.byDay("0: 4-9", "17: 0-4");
        int number = x.book(0, 9, false);
        for (int other = 0; other < number; other++) {
            x.cancel(other);
        }
        return x;
    }

    private static void cutNamedFirst() {
        Check.sentence("If several exceptions apply, the one that is named first in the throws clause is thrown: cut");
        Check.refused("no coach, no station", Check.BOUNDS, States::full, x -> x.cut(3, 0));
        Check.refused("no coach, no station", Check.BOUNDS, States::full, x -> x.cut(-1, 10));
        Check.refused("no station, and berths that are had behind", Check.ARGUMENT, States::full, x -> x.cut(0, 0));
        Check.refused("no station, and berths that are had behind", Check.ARGUMENT, States::full, x -> x.cut(2, -1));
        Check.refused("berths that are had behind", Check.STATE, States::full, x -> x.cut(2, 8));
    }

    private static void cutAndBackAgain() {
        Check.sentence("Changes how far a coach goes.");
        SleeperBerths x = new SleeperBerths();
        x.cut(0, 1);
        x.cut(1, 1);
        x.cut(2, 1);
        Check.due("on leg 0", x.free(0, 0), 18);
        Check.due("on leg 1", x.free(1, 0), 0);
        Check.due("from 0", x.farthest(0), 1);
        x.cut(1, 9);
        Check.due("on leg 8 again", x.free(8, 0), 6);
        Check.due("the lowest", x.free(8, 1), 6);
        Check.due("book(0, 9, true)", x.book(0, 9, true), 0);
        Check.due("its berth", x.passenger(0, 4), 6);
        x.undo();
        x.undo();
        Check.due("undone", x.free(1, 0), 0);
        x.undo();
        Check.due("undone", x.free(1, 1), 12);
        SleeperBerths y = States.full();
        Check.due("not at all, with all full", y.cut(1, 9), 9);
    }

    // ---- promise 7

    private static void setSetting() {
        Check.sentence("setting: 0 to 2 ... Throws IndexOutOfBoundsException if there is no such setting");
        int[] wrong = {-1, 3, 9, Check.LEAST, Check.GREATEST};
        for (int setting : wrong) {
            Check.refused("set(" + setting + ", 5)", Check.BOUNDS, SleeperBerths::new, x -> x.set(setting, 5));
            Check.refused("set(" + setting + ", 0)", Check.BOUNDS, States::mixed, x -> x.set(setting, 0));
        }
        for (int setting = 0; setting <= 2; setting++) {
            SleeperBerths x = new SleeperBerths();
            x.set(setting, 8);
            Check.due("setting(0)", x.setting(0), setting == 0 ? 8 : 3);
            Check.due("setting(1)", x.setting(1), setting == 1 ? 8 : 6);
            Check.due("setting(2)", x.setting(2), setting == 2 ? 8 : 10);
        }
    }

    private static void setValue() {
        Check.sentence("Throws IllegalArgumentException if value is out of range");
        int[] greatest = {9, 9, 50};
        for (int setting = 0; setting <= 2; setting++) {
            int index = setting;
            SleeperBerths x = new SleeperBerths();
            x.set(setting, 0);
            Check.due("the least", x.setting(setting), 0);
            x.set(setting, greatest[setting]);
            Check.due("the greatest", x.setting(setting), greatest[setting]);
            int[] wrong = {-1, greatest[setting] + 1, Check.LEAST, Check.GREATEST};
            for (int value : wrong) {
                Check.refused("set(" + setting + ", " + value + ")", Check.ARGUMENT, States::mixed, y -> y.set(index, value));
            }
        }
        Check.refused("set(0, 50)", Check.ARGUMENT, SleeperBerths::new, x -> x.set(0, 50));
        Check.refused("set(1, 50)", Check.ARGUMENT, SleeperBerths::new, x -> x.set(1, 50));
        SleeperBerths x = new SleeperBerths();
        Check.due("setting 0 may be greater than setting 1", x.set(0, 9), 3);
        Check.due("setting 1 may be less than setting 0", x.set(1, 0), 6);
    }

    private static void setReturns() {
        Check.sentence("Returns the previous value.");
        SleeperBerths x = new SleeperBerths();
        int[][] calls = {{0, 9, 3}, {0, 9, 9}, {0, 0, 9}, {1, 9, 6}, {1, 0, 9}, {1, 0, 0}, {2, 50, 10}, {2, 0, 50}, {2, 0, 0}, {2, 1, 0}, {0, 1, 0}, {1, 1, 0}};
        for (int[] call : calls) {
            Check.due("set(" + call[0] + ", " + call[1] + ")", x.set(call[0], call[1]), call[2]);
        }
        x.undo();
        Check.due("behind undo()", x.set(1, 7), 0);
    }

    private static void setNamedFirst() {
        Check.sentence("If several exceptions apply, the one that is named first in the throws clause is thrown: set");
        Check.refused("neither setting nor value", Check.BOUNDS, SleeperBerths::new, x -> x.set(3, 51));
        Check.refused("neither setting nor value", Check.BOUNDS, SleeperBerths::new, x -> x.set(-1, -1));
        Check.refused("neither setting nor value", Check.BOUNDS, SleeperBerths::new, x -> x.set(Check.GREATEST, Check.LEAST));
    }

    private static void setBerthsStay() {
        Check.sentence("Changes a setting (berths that passengers have stay).");
        SleeperBerths x = States.withOneWhoChanges();
        States.night(x, 0, 9);
        Check.due("a change at night stays", x.passenger(18, 6), 4);
        Check.due("the first berth", x.passenger(18, 4), 0);
        Check.due("the second berth", x.passenger(18, 5), 2);
        Check.due("holder(0, 3)", x.holder(0, 3), 18);
        Check.due("holder(2, 4)", x.holder(2, 4), 18);
        Check.due("a new one could not", x.ifBooked(0, 9, false, 0), 0);
        x.set(2, 0);
        Check.due("no berth changes by the tip", x.passenger(18, 6), 4);
        Check.due("the tip does", x.passenger(18, 8), 0);
        Check.due("no booking", x.count(6), 19);
        Check.due("nothing to return for one with one berth", x.passenger(0, 6), NONE);
    }
}
