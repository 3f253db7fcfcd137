/**
 * The sentences on exceptions, over all calls: each call with arguments at, beyond and far beyond its edges, in several
 * states. What the arguments alone ask for is due; else a call may throw only what its throws clause has for states.
 */
public final class EdgesOfExceptions {
    private static final int[] ODD = {Check.LEAST, Check.LEAST + 1, -2, -1, 0, 1, 8, 9, 10, 17, 18, 39, 40, 41, 50, 51, Check.GREATEST - 1, Check.GREATEST};
    private static final int[] STATIONS = {Check.LEAST, -1, 0, 1, 4, 8, 9, 10, Check.GREATEST};
    private static final int[] FEW = {Check.LEAST, -1, 0, 1, 2, 3, 4, Check.GREATEST};

    private static final Class<?> NOTHING = null;

    private static final class State {
        final String name;
        final Check.Start start;

        State(String name, Check.Start start) {
            this.name = name;
            this.start = start;
        }
    }

    private static final State[] STATES = {
        new State("empty", SleeperBerths::new),
        new State("full", States::full),
        new State("forty", States::forty),
        new State("mixed", States::mixed),
        new State("a full buffer", EdgesOfExceptions::fullBuffer),
    };

    public static void main(String[] args) {
        for (State state : STATES) {
            Check.sentence("A call that throws an exception changes nothing. If several exceptions apply, the one that is named first in the throws clause is thrown. In the state: " + state.name);
            books(state);
            passengers(state);
            places(state);
            coaches(state);
            texts(state);
            looks(state);
            wouldBe(state);
        }
        manyRefused();
        refusedAtTheEnd();
        Check.end("EdgesOfExceptions");
    }

    private static SleeperBerths fullBuffer() {
        SleeperBerths x = States.mixed();
        x.clearBuffer();
        for (int part = 0; part < 12; part++) {
            States.write(x, "0-9!;");
        }
        return x;
    }

    /** The due exception, or none or the one that the state may ask for; whichever is thrown, nothing is changed. */
    private static void tried(State state, String what, Class<?> due, Class<?> may, Check.Call call) {
        String name = what + " in the state " + state.name;
        String told = Check.told(state.start.make(), call);
        boolean throwsWhatItMay = due == NOTHING && may != NOTHING && told.equals("throws." + may.getSimpleName());
        if (due != NOTHING || throwsWhatItMay) {
            Check.refused(name, due != NOTHING ? due : may, state.start, call);
        } else {
            Check.dueTold(name, told.startsWith("throws.") ? told : "no exception", "no exception");
        }
    }

    private static boolean isWay(int from, int to) {
        return 0 <= from && from <= 8 && from < to && to <= 9;
    }

    private static boolean isNumber(SleeperBerths x, int number) {
        for (int place = 0; place < 40; place++) {
            if (number >= 0 && x.passenger(place, 0) == number) {
                return true;
            }
        }
        return false;
    }

    private static void books(State state) {
        for (int from : STATIONS) {
            for (int to : STATIONS) {
                Class<?> due = isWay(from, to) ? NOTHING : Check.ARGUMENT;
                String way = "(" + from + ", " + to + ")";
                tried(state, "book" + way + " paid through", due, Check.STATE, x -> x.book(from, to, true));
                tried(state, "book" + way, due, Check.STATE, x -> x.book(from, to, false));
                tried(state, "whyNot" + way, due, NOTHING, x -> x.whyNot(from, to));
            }
        }
    }

    private static void passengers(State state) {
        for (int number : ODD) {
            Class<?> due = isNumber(state.start.make(), number) ? NOTHING : Check.BOUNDS;
            tried(state, "cancel(" + number + ")", due, NOTHING, x -> x.cancel(number));
            tried(state, "rebook(" + number + ")", due, Check.STATE, x -> x.rebook(number));
        }
    }

    private static void places(State state) {
        for (int number : new int[] {Check.LEAST, -1, 0, 16, 17, 18, 20, 39, 40, Check.GREATEST}) {
            boolean isThere = isNumber(state.start.make(), number);
            for (int berth : new int[] {Check.LEAST, -1, 0, 16, 17, 18, Check.GREATEST}) {
                Class<?> due = isThere && 0 <= berth && berth <= 17 ? NOTHING : Check.BOUNDS;
                tried(state, "place(" + number + ", " + berth + ")", due, Check.STATE, x -> x.place(number, berth));
            }
        }
    }

    private static void coaches(State state) {
        for (int index : FEW) {
            boolean isThere = 0 <= index && index <= 2;
            for (int station : STATIONS) {
                Class<?> due = !isThere ? Check.BOUNDS : station < 1 || station > 9 ? Check.ARGUMENT : NOTHING;
                tried(state, "cut(" + index + ", " + station + ")", due, Check.STATE, x -> x.cut(index, station));
            }
            for (int value : ODD) {
                boolean isValue = 0 <= value && value <= (index == 2 ? 50 : 9);
                Class<?> due = !isThere ? Check.BOUNDS : !isValue ? Check.ARGUMENT : NOTHING;
                tried(state, "set(" + index + ", " + value + ")", due, NOTHING, x -> x.set(index, value));
            }
            Class<?> due = isThere ? NOTHING : Check.BOUNDS;
            tried(state, "goesTo(" + index + ")", due, NOTHING, x -> x.goesTo(index));
            tried(state, "setting(" + index + ")", due, NOTHING, x -> x.setting(index));
        }
    }

    private static void texts(State state) {
        boolean isFull = state.start.make().clearBuffer() == 60;
        for (int code : new int[] {Check.LEAST, -1, 0, 32, 33, 48, 126, 127, 256 + 48, Check.GREATEST}) {
            Class<?> due = code < 33 || code > 126 ? Check.ARGUMENT : isFull ? Check.STATE : NOTHING;
            tried(state, "append(" + code + ")", due, NOTHING, x -> x.append(code));
        }
        tried(state, "clearBuffer()", NOTHING, NOTHING, SleeperBerths::clearBuffer);
        tried(state, "firstError()", NOTHING, NOTHING, SleeperBerths::firstError);
        tried(state, "bookAll()", Check.ARGUMENT, NOTHING, SleeperBerths::bookAll);
        boolean hasSaved = state.start.make().count(8) > 0;
        tried(state, "undo()", hasSaved ? NOTHING : Check.STATE, NOTHING, SleeperBerths::undo);
    }

    private static void looks(State state) {
        for (int one : ODD) {
            Class<?> dueCount = 0 <= one && one <= 8 ? NOTHING : Check.ARGUMENT;
            tried(state, "count(" + one + ")", dueCount, NOTHING, x -> x.count(one));
            tried(state, "farthest(" + one + ")", dueCount, NOTHING, x -> x.farthest(one));
            for (int other : ODD) {
                boolean isHolder = 0 <= one && one <= 17 && 0 <= other && other <= 8;
                tried(state, "holder(" + one + ", " + other + ")", isHolder ? NOTHING : Check.BOUNDS, NOTHING, x -> x.holder(one, other));
                boolean isProperty = one >= 0 && 0 <= other && other <= 8;
                tried(state, "passenger(" + one + ", " + other + ")", isProperty ? NOTHING : Check.ARGUMENT, NOTHING, x -> x.passenger(one, other));
                Class<?> dueFree = one < 0 || one > 8 ? Check.BOUNDS : other < 0 || other > 1 ? Check.ARGUMENT : NOTHING;
                tried(state, "free(" + one + ", " + other + ")", dueFree, NOTHING, x -> x.free(one, other));
            }
        }
    }

    private static void wouldBe(State state) {
        for (int from : STATIONS) {
            for (int to : STATIONS) {
                for (int what : FEW) {
                    Class<?> due = isWay(from, to) && 0 <= what && what <= 3 ? NOTHING : Check.ARGUMENT;
                    String call = "ifBooked(" + from + ", " + to + ", .., " + what + ")";
                    tried(state, call, due, NOTHING, x -> x.ifBooked(from, to, what % 2 == 0, what));
                }
            }
        }
        tried(state, "fullness()", NOTHING, NOTHING, x -> (long) x.fullness());
        tried(state, "digest()", NOTHING, NOTHING, SleeperBerths::digest);
    }

    /** One refused call may leave a trace that only many of them show. */
    private static void manyRefused() {
        Check.sentence("A call that throws an exception changes nothing.");
        Check.Call[] calls = {
            x -> x.book(0, 9, false), x -> x.book(9, 9, true), x -> x.cancel(17), x -> x.place(18, 16), x -> x.place(19, 18), x -> x.rebook(19),
            x -> x.cut(0, 3), x -> x.cut(3, 3), x -> x.set(2, 51), x -> x.append(32), SleeperBerths::bookAll, x -> x.holder(18, 0),
            x -> x.passenger(-1, 0), x -> x.count(9), x -> x.free(0, 2), x -> x.goesTo(3), x -> x.setting(3), x -> x.ifBooked(0, 9, true, 4), x -> x.whyNot(3, 3), x -> x.farthest(9),
        };
        SleeperBerths x = States.mixed();
        for (int round = 0; round < 8; round++) {
            for (int call = 0; call < calls.length; call++) {
                boolean isThrown = Check.told(x, calls[call]).startsWith("throws.");
                Check.due("call " + call + " throws", isThrown ? 1 : 0, 1);
            }
        }
        SleeperBerths twin = States.mixed();
        Check.due("digest()", x.digest(), twin.digest());
        for (int left = 5; left >= 0; left--) {
            Check.due("undo()", x.undo(), left);
            twin.undo();
            Check.due("digest() behind undo()", x.digest(), twin.digest());
        }
        Check.due("the next number", Check.told(x, y -> y.book(0, 9, true)).equals(Check.told(twin, y -> y.book(0, 9, true))) ? 1 : 0, 1);
    }

    /** What is refused at first holds, when there is room again. */
    private static void refusedAtTheEnd() {
        Check.sentence("A call that throws an exception changes nothing. (Then the same call, when nothing stands against it.)");
        SleeperBerths x = States.forty();
        Check.dueTold("book(3, 9, true)", Check.told(x, y -> y.book(3, 9, true)), "throws.IllegalStateException");
        x.cancel(39);
        Check.dueTold("book(3, 9, true)", Check.told(x, y -> y.book(3, 9, true)), "40");
        SleeperBerths z = States.full();
        Check.dueTold("cut(2, 8)", Check.told(z, y -> y.cut(2, 8)), "throws.IllegalStateException");
        for (int number = 12; number <= 17; number++) {
            z.cancel(number);
        }
        Check.dueTold("cut(2, 8)", Check.told(z, y -> y.cut(2, 8)), "9");
    }
}
