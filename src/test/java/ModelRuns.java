import java.util.ArrayList;
import java.util.List;
import java.util.regex.Matcher;
import java.util.regex.Pattern;

/**
 * Long runs of calls, each answer held against a slow model that is written anew from the document:
 * passengers carry a berth for each leg, berths are sought by trying all pairs, texts by trying endings.
 */
public final class ModelRuns {
    private static final int CALLS = 512;
    private static final int RUNS = 400;

    // ---- the model

    private static final class Guest implements Cloneable {
        int number;
        int from;
        int to;
        boolean paid;
        int[] berthOn = new int[9];

        Guest copy() {
            Guest copy = new Guest();
            copy.number = number;
            copy.from = from;
            copy.to = to;
            copy.paid = paid;
            copy.berthOn = berthOn.clone();
            return copy;
        }

        int changeAt() {
            for (int s = from + 1; s < to; s++) {
                if (berthOn[s] != berthOn[s - 1]) {
                    return s;
                }
            }
            return -1;
        }
    }

    private static final class State {
        List<Guest> guests = new ArrayList<>();
        int[] settings = {3, 6, 10};
        int[] ends = {9, 9, 9};
        int came;
        int bookings;
        int leftOut;

        State copy() {
            State copy = new State();
            for (Guest guest : guests) {
                copy.guests.add(guest.copy());
            }
            copy.settings = settings.clone();
            copy.ends = ends.clone();
            copy.came = came;
            copy.bookings = bookings;
            copy.leftOut = leftOut;
            return copy;
        }
    }

    private static final class Model {
        State state = new State();
        List<State> saved = new ArrayList<>();
        String buffer = "";

        private void save(State before) {
            saved.add(before);
            if (saved.size() > 6) {
                saved.remove(0);
            }
        }

        private Guest guest(int number) {
            for (Guest guest : state.guests) {
                if (guest.number == number) {
                    return guest;
                }
            }
            throw new IndexOutOfBoundsException();
        }

        private int who(int berth, int leg) {
            for (Guest guest : state.guests) {
                if (guest.from <= leg && leg < guest.to && guest.berthOn[leg] == berth) {
                    return guest.number;
                }
            }
            return -1;
        }

        private boolean canBeHad(int berth, int leg) {
            return leg + 1 <= state.ends[berth / 6] && who(berth, leg) == -1;
        }

        private boolean canBeHad(int berth, int from, int to) {
            for (int leg = from; leg < to; leg++) {
                if (!canBeHad(berth, leg)) {
                    return false;
                }
            }
            return true;
        }

        private int woken(Guest guest) {
            int woken = 0;
            for (int s = guest.from + 1; s <= guest.to - 1; s++) {
                if (guest.berthOn[s - 1] == guest.berthOn[s]) {
                    int neighbour = guest.berthOn[s] ^ 1;
                    if (who(neighbour, s - 1) != who(neighbour, s)) {
                        woken++;
                    }
                }
            }
            return woken;
        }

        private int tip(Guest guest) {
            int tip = state.settings[2] - woken(guest) - (guest.changeAt() == -1 ? 0 : 3);
            return tip < 0 ? 0 : tip;
        }

        /** The guest with the berths found, or null; the guest is not among those of the state. */
        private Guest find(int from, int to, boolean paid) {
            Guest best = null;
            int fewest = 99;
            for (int berth = 0; berth < 18; berth++) {
                if (canBeHad(berth, from, to)) {
                    Guest guest = sitting(from, to, paid, berth, to, berth);
                    if (woken(guest) < fewest) {
                        best = guest;
                        fewest = woken(guest);
                    }
                }
            }
            if (best != null || paid) {
                return best;
            }
            for (int s = from + 1; s < to; s++) {
                if (state.settings[0] <= s && s <= state.settings[1]) {
                    continue;
                }
                for (int first = 0; first < 18; first++) {
                    if (!canBeHad(first, from, s)) {
                        continue;
                    }
                    for (int second = 0; second < 18; second++) {
                        if (second == first || !canBeHad(second, s, to)) {
                            continue;
                        }
                        Guest guest = sitting(from, to, false, first, s, second);
                        state.guests.add(guest);
                        guest.number = 100000;
                        int woken = woken(guest);
                        state.guests.remove(guest);
                        if (woken < fewest) {
                            best = guest;
                            fewest = woken;
                        }
                    }
                }
            }
            return best;
        }

        private Guest sitting(int from, int to, boolean paid, int first, int middle, int second) {
            Guest guest = new Guest();
            guest.from = from;
            guest.to = to;
            guest.paid = paid;
            for (int leg = from; leg < to; leg++) {
                guest.berthOn[leg] = leg < middle ? first : second;
            }
            return guest;
        }

        private void checkWay(int from, int to) {
            if (from < 0 || from > 8 || to < from + 1 || to > 9) {
                throw new IllegalArgumentException();
            }
        }

        int book(int from, int to, boolean paid) {
            checkWay(from, to);
            Guest guest = find(from, to, paid);
            if (state.guests.size() == 40 || guest == null) {
                throw new IllegalStateException();
            }
            save(state.copy());
            return enter(guest);
        }

        private int enter(Guest guest) {
            guest.number = state.came++;
            state.guests.add(guest);
            state.bookings++;
            return guest.number;
        }

        int cancel(int number) {
            Guest guest = guest(number);
            int tip = tip(guest);
            save(state.copy());
            state.guests.remove(guest);
            return tip;
        }

        int place(int number, int berth) {
            Guest guest = guest(number);
            if (berth < 0 || berth > 17) {
                throw new IndexOutOfBoundsException();
            }
            boolean refused = guest.paid && guest.berthOn[guest.from] != berth;
            for (int leg = guest.from; leg < guest.to; leg++) {
                int who = who(berth, leg);
                refused |= leg >= state.ends[berth / 6] || (who != -1 && who != number);
            }
            if (refused) {
                throw new IllegalStateException();
            }
            save(state.copy());
            int before = guest.berthOn[guest.from];
            for (int leg = guest.from; leg < guest.to; leg++) {
                guest.berthOn[leg] = berth;
            }
            return before;
        }

        int rebook(int number) {
            Guest guest = guest(number);
            if (guest.paid) {
                throw new IllegalStateException();
            }
            int before = woken(guest);
            int at = state.guests.indexOf(guest);
            State old = state.copy();
            state.guests.remove(guest);
            Guest anew = find(guest.from, guest.to, false);
            if (anew == null) {
                state.guests.add(at, guest);
                throw new IllegalStateException();
            }
            save(old);
            anew.number = number;
            state.guests.add(at, anew);
            state.bookings++;
            return before - woken(anew);
        }

        int cut(int coach, int station) {
            if (coach < 0 || coach > 2) {
                throw new IndexOutOfBoundsException();
            }
            if (station < 1 || station > 9) {
                throw new IllegalArgumentException();
            }
            for (Guest guest : state.guests) {
                for (int leg = Math.max(station, guest.from); leg < guest.to; leg++) {
                    if (guest.berthOn[leg] / 6 == coach) {
                        throw new IllegalStateException();
                    }
                }
            }
            save(state.copy());
            int before = state.ends[coach];
            state.ends[coach] = station;
            return before;
        }

        int set(int setting, int value) {
            if (setting < 0 || setting > 2) {
                throw new IndexOutOfBoundsException();
            }
            if (value < 0 || value > (setting == 2 ? 50 : 9)) {
                throw new IllegalArgumentException();
            }
            save(state.copy());
            int before = state.settings[setting];
            state.settings[setting] = value;
            return before;
        }

        int append(int code) {
            if (code < 33 || code > 126) {
                throw new IllegalArgumentException();
            }
            if (buffer.length() == 60) {
                throw new IllegalStateException();
            }
            buffer += (char) code;
            return buffer.length();
        }

        int clearBuffer() {
            int length = buffer.length();
            buffer = "";
            return length;
        }

        private static final Pattern PART = Pattern.compile("([0-9])-([0-9])(!?)");

        private static boolean isComplete(String text) {
            for (String part : text.split(";", -1)) {
                Matcher matcher = PART.matcher(part);
                if (!matcher.matches() || matcher.group(1).compareTo(matcher.group(2)) >= 0) {
                    return false;
                }
            }
            return true;
        }

        private static boolean canBegin(String text) {
            for (String ending : new String[] {"", "9", "-9", "0-9"}) {
                if (isComplete(text + ending)) {
                    return true;
                }
            }
            return false;
        }

        int firstError() {
            for (int i = 0; i < buffer.length(); i++) {
                if (!canBegin(buffer.substring(0, i + 1))) {
                    return i;
                }
            }
            return buffer.length();
        }

        int bookAll() {
            if (!isComplete(buffer)) {
                throw new IllegalArgumentException();
            }
            save(state.copy());
            int booked = 0;
            for (String part : buffer.split(";")) {
                Guest guest = find(part.charAt(0) - '0', part.charAt(2) - '0', part.endsWith("!"));
                if (guest == null || state.guests.size() == 40) {
                    state.leftOut++;
                } else {
                    enter(guest);
                    booked++;
                }
            }
            buffer = "";
            return booked;
        }

        int undo() {
            if (saved.isEmpty()) {
                throw new IllegalStateException();
            }
            state = saved.remove(saved.size() - 1);
            return saved.size();
        }

        int holder(int berth, int leg) {
            if (berth < 0 || berth > 17 || leg < 0 || leg > 8) {
                throw new IndexOutOfBoundsException();
            }
            return who(berth, leg);
        }

        int passenger(int place, int what) {
            if (place < 0 || what < 0 || what > 8) {
                throw new IllegalArgumentException();
            }
            if (place >= state.guests.size()) {
                return -1;
            }
            Guest guest = state.guests.get(place);
            int[] properties = {
                guest.number, guest.from, guest.to, guest.paid ? 1 : 0, guest.berthOn[guest.from],
                guest.berthOn[guest.to - 1], guest.changeAt(), woken(guest), tip(guest)
            };
            return properties[what];
        }

        int count(int what) {
            if (what < 0 || what > 8) {
                throw new IllegalArgumentException();
            }
            int[] counts = new int[9];
            for (Guest guest : state.guests) {
                counts[0]++;
                counts[1] += guest.paid ? 1 : 0;
                counts[2] += guest.changeAt() == -1 ? 0 : 1;
                counts[3] += woken(guest);
                counts[4] += tip(guest);
                counts[5] += guest.to - guest.from;
            }
            counts[6] = state.bookings;
            counts[7] = state.leftOut;
            counts[8] = saved.size();
            return counts[what];
        }

        int free(int leg, int what) {
            if (leg < 0 || leg > 8) {
                throw new IndexOutOfBoundsException();
            }
            if (what != 0 && what != 1) {
                throw new IllegalArgumentException();
            }
            int free = 0;
            int lowest = -1;
            for (int berth = 17; berth >= 0; berth--) {
                if (canBeHad(berth, leg)) {
                    free++;
                    lowest = berth;
                }
            }
            return what == 0 ? free : lowest;
        }

        int goesTo(int coach) {
            if (coach < 0 || coach > 2) {
                throw new IndexOutOfBoundsException();
            }
            return state.ends[coach];
        }

        int setting(int setting) {
            if (setting < 0 || setting > 2) {
                throw new IndexOutOfBoundsException();
            }
            return state.settings[setting];
        }

        int ifBooked(int from, int to, boolean paid, int what) {
            checkWay(from, to);
            if (what < 0 || what > 3) {
                throw new IllegalArgumentException();
            }
            Guest guest = find(from, to, paid);
            if (guest == null) {
                return what == 0 ? 0 : -1;
            }
            int[] answers = {guest.changeAt() == -1 ? 1 : 2, guest.berthOn[from], guest.changeAt(), woken(guest)};
            return answers[what];
        }

        int whyNot(int from, int to) {
            checkWay(from, to);
            for (int berth = 0; berth < 18; berth++) {
                if (canBeHad(berth, from, to)) {
                    return 0;
                }
            }
            if (state.ends[0] < to && state.ends[1] < to && state.ends[2] < to) {
                return 1;
            }
            for (int leg = from; leg < to; leg++) {
                if (free(leg, 0) == 0) {
                    return 2;
                }
            }
            return 3;
        }

        int farthest(int from) {
            if (from < 0 || from > 8) {
                throw new IllegalArgumentException();
            }
            for (int to = 9; to > from; to--) {
                if (whyNot(from, to) == 0) {
                    return to;
                }
            }
            return from;
        }

        double fullness() {
            int had = count(5);
            int open = 0;
            for (int leg = 0; leg < 9; leg++) {
                open += free(leg, 0);
            }
            return (double) had / (had + open);
        }

        long digest() {
            List<Long> values = new ArrayList<>();
            for (int what = 0; what < 9; what++) {
                values.add((long) count(what));
            }
            for (int index = 0; index < 3; index++) {
                values.add((long) setting(index));
            }
            for (int coach = 0; coach < 3; coach++) {
                values.add((long) goesTo(coach));
            }
            for (int berth = 0; berth < 18; berth++) {
                for (int leg = 0; leg < 9; leg++) {
                    values.add((long) holder(berth, leg));
                }
            }
            for (int place = 0; place < state.guests.size(); place++) {
                for (int what = 0; what < 9; what++) {
                    values.add((long) passenger(place, what));
                }
            }
            for (int leg = 0; leg < 9; leg++) {
                values.add((long) free(leg, 0));
                values.add((long) free(leg, 1));
            }
            for (int station = 0; station < 9; station++) {
                values.add((long) farthest(station));
                values.add((long) whyNot(station, 9));
            }
            for (int what = 0; what < 4; what++) {
                values.add((long) ifBooked(1, 8, false, what));
            }
            values.add(Double.doubleToLongBits(fullness()));
            values.add((long) buffer.length());
            for (char sign : buffer.toCharArray()) {
                values.add((long) sign);
            }
            long hash = 2999;
            for (long value : values) {
                hash = 31 * hash + value;
            }
            return hash;
        }
    }

    // ---- the runs

    private static long seed;

    /** A plain generator, so that a run is the same on every machine. */
    private static int below(int bound) {
        seed = seed * 6364136223846793005L + 1442695040888963407L;
        return (int) ((seed >>> 33) % bound);
    }

    private interface Call {
        long answer();
    }

    private static String told(Call call) {
        try {
            return Long.toString(call.answer());
        } catch (RuntimeException e) {
            return "throws." + e.getClass().getSimpleName();
        }
    }

    private static int wrong = 0;
    private static int call = 0;
    private static final int[] MET = new int[64];

    /** Calls behind the last one that the document binds are left out. */
    private static void due(int run, String what, Call got, Call want) {
        if (call == CALLS) {
            return;
        }
        call++;
        String wanted = told(want);
        String answered = told(got);
        if (!wanted.equals(answered)) {
            wrong++;
            if (wrong < 30) {
                System.out.println("run " + run + " call " + call + ": " + what + " answered " + answered + ", due is " + wanted);
            }
        }
    }

    private static int oddOr(int usual, int from, int to) {
        return below(12) == 0 ? from + below(to - from + 1) : usual;
    }

    public static void main(String[] args) {
        for (int run = 0; run < RUNS; run++) {
            seed = 977L * run + 13L;
            runOnce(run);
        }
        checkMet();
        System.out.println(wrong == 0 ? "all runs answer as the model" : wrong + " answers are not the model's");
        if (wrong != 0) {
            System.exit(1);
        }
    }

    private static void runOnce(int run) {
        SleeperBerths x = new SleeperBerths();
        Model m = new Model();
        int cancelWeight = 1 + below(12);
        int shortest = 1 + below(5);
        call = 0;
        begin(run, x, m);
        while (call < CALLS) {
            oneCall(run, x, m, cancelWeight, shortest);
            if (below(3) != 0) {
                due(run, "digest()", x::digest, m::digest);
            }
        }
        MET[0] = Math.max(MET[0], m.state.guests.size());
    }

    /** Some runs have no night, and some have coaches that are cut off early. */
    private static void begin(int run, SleeperBerths x, Model m) {
        if (run % 3 == 1) {
            due(run, "set(1, 0)", () -> x.set(1, 0), () -> m.set(1, 0));
        }
        for (int coach = 0; coach < 3 && run % 4 == 2; coach++) {
            int which = coach;
            int station = 2 + below(7);
            due(run, "cut(" + which + ", " + station + ")", () -> x.cut(which, station), () -> m.cut(which, station));
        }
    }

    private static int someNumber(Model m) {
        if (m.state.guests.isEmpty() || below(15) == 0) {
            return below(m.state.came + 3) - 1;
        }
        return m.state.guests.get(below(m.state.guests.size())).number;
    }

    private static void oneCall(int run, SleeperBerths x, Model m, int cancelWeight, int shortest) {
        int kind = below(100);
        if (kind < 34) {
            int from = oddOr(below(9), -2, 11);
            int to = oddOr(Math.min(9, from + shortest + below(9)), -2, 11);
            boolean paid = below(3) == 0;
            MET[1] += m.state.guests.size() == 40 ? 1 : 0;
            due(run, "book(" + from + ", " + to + ", " + paid + ")", () -> x.book(from, to, paid), () -> m.book(from, to, paid));
            MET[2] = Math.max(MET[2], m.count(2));
        } else if (kind < 34 + cancelWeight) {
            int number = someNumber(m);
            due(run, "cancel(" + number + ")", () -> x.cancel(number), () -> m.cancel(number));
        } else if (kind < 54) {
            int number = someNumber(m);
            int berth = oddOr(below(18), -1, 18);
            due(run, "place(" + number + ", " + berth + ")", () -> x.place(number, berth), () -> m.place(number, berth));
        } else if (kind < 62) {
            int number = someNumber(m);
            due(run, "rebook(" + number + ")", () -> x.rebook(number), () -> m.rebook(number));
        } else if (kind < 66) {
            int coach = oddOr(below(3), -1, 3);
            int station = oddOr(below(2) == 0 ? 9 : 5 + below(5), -1, 10);
            due(run, "cut(" + coach + ", " + station + ")", () -> x.cut(coach, station), () -> m.cut(coach, station));
        } else if (kind < 70) {
            int setting = oddOr(below(3), -1, 3);
            int value = below(5) == 0 ? below(60) - 4 : below(11);
            due(run, "set(" + setting + ", " + value + ")", () -> x.set(setting, value), () -> m.set(setting, value));
        } else if (kind < 78) {
            textCalls(run, x, m);
        } else if (kind < 82) {
            due(run, "undo()", x::undo, m::undo);
        } else {
            look(run, x, m);
        }
    }

    private static String someText() {
        StringBuilder text = new StringBuilder();
        int parts = 1 + below(below(6) == 0 ? 16 : 4);
        for (int part = 0; part < parts; part++) {
            int from = below(9);
            text.append(part == 0 ? "" : ";").append(from).append('-').append(from + 1 + below(9 - from));
            text.append(below(3) == 0 ? "!" : "");
        }
        if (below(3) == 0) {
            text.setCharAt(below(text.length()), "0123456789-!;~a:,/".charAt(below(18)));
        }
        return text.toString();
    }

    private static void textCalls(int run, SleeperBerths x, Model m) {
        if (below(2) == 0) {
            due(run, "clearBuffer()", x::clearBuffer, m::clearBuffer);
        }
        String text = someText();
        for (int i = 0; i < text.length(); i++) {
            int code = text.charAt(i);
            due(run, "append(" + code + ")", () -> x.append(code), () -> m.append(code));
        }
        int odd = below(2) == 0 ? 28 + below(8) : 122 + below(8);
        if (below(8) == 0) {
            due(run, "append(" + odd + ")", () -> x.append(odd), () -> m.append(odd));
        }
        due(run, "firstError() of " + m.buffer, x::firstError, m::firstError);
        String before = m.buffer;
        due(run, "bookAll() of " + before, x::bookAll, m::bookAll);
        MET[3] += m.buffer.isEmpty() ? 1 : 0;
        MET[4] = Math.max(MET[4], m.state.leftOut);
    }

    private static void look(int run, SleeperBerths x, Model m) {
        int a = oddOr(below(9), -2, 20);
        int b = oddOr(below(10), -2, 20);
        boolean paid = below(2) == 0;
        int berth = oddOr(below(18), -2, 20);
        int row = below(43) - 1;
        int what = oddOr(below(4), -2, 20);
        int near = oddOr(below(3), -2, 4);
        due(run, "holder(" + berth + ", " + a + ")", () -> x.holder(berth, a), () -> m.holder(berth, a));
        due(run, "passenger(" + row + ", " + a + ")", () -> x.passenger(row, a), () -> m.passenger(row, a));
        due(run, "count(" + a + ")", () -> x.count(a), () -> m.count(a));
        due(run, "free(" + a + ", " + near + ")", () -> x.free(a, near), () -> m.free(a, near));
        due(run, "goesTo(" + near + ")", () -> x.goesTo(near), () -> m.goesTo(near));
        due(run, "setting(" + near + ")", () -> x.setting(near), () -> m.setting(near));
        due(run, "ifBooked(" + a + ", " + b + ", " + paid + ", " + what + ")",
                () -> x.ifBooked(a, b, paid, what), () -> m.ifBooked(a, b, paid, what));
        due(run, "whyNot(" + a + ", " + b + ")", () -> x.whyNot(a, b), () -> m.whyNot(a, b));
        due(run, "farthest(" + a + ")", () -> x.farthest(a), () -> m.farthest(a));
        due(run, "fullness()", () -> Double.doubleToLongBits(x.fullness()), () -> Double.doubleToLongBits(m.fullness()));
        for (int to = Math.max(0, a) + 1; to <= 9 && a >= 0 && a < 9; to++) {
            int answer = m.whyNot(a, to);
            MET[10 + answer]++;
        }
    }

    /** Runs that never come to a full train, to changes, or to a reason would show nothing. */
    private static void checkMet() {
        int[] mustBeMet = {1, 2, 3, 4, 10, 11, 12, 13};
        for (int which : mustBeMet) {
            if (MET[which] == 0) {
                wrong++;
                System.out.println("the runs never came to case " + which);
            }
        }
        System.out.println("most passengers at an end " + MET[0] + ", bookings tried at 40: " + MET[1] + ", most changing " + MET[2]
                + ", texts booked " + MET[3] + ", most left out " + MET[4]
                + ", reasons " + MET[10] + " " + MET[11] + " " + MET[12] + " " + MET[13]);
    }
}
