/** Berths of a sleeping car with through coaches; ../shared/DOC.md says what each call promises. */
public final class SleeperBerths {
    public static final int NONE = -1;

    private static final int LEGS = 9;
    private static final int LAST_STATION = 9;
    private static final int COACHES = 3;
    private static final int BERTHS_OF_A_COACH = 6;
    private static final int BERTHS = COACHES * BERTHS_OF_A_COACH;
    private static final int MOST_PASSENGERS = 40;
    private static final int MOST_SAVED = 6;
    private static final int MOST_CODES = 60;

    private static final int NIGHT_BEGINS = 0;
    private static final int NIGHT_ENDS = 1;
    private static final int GREATEST_TIP = 2;
    private static final int SETTINGS = 3;
    private static final int CHANGE_COSTS = 3;

    // The properties of a passenger; those before WOKEN are kept in a row, the others follow from it.
    private static final int NUMBER = 0;
    private static final int FROM = 1;
    private static final int TO = 2;
    private static final int PAID_THROUGH = 3;
    private static final int FIRST_BERTH = 4;
    private static final int LAST_BERTH = 5;
    private static final int CHANGE_AT = 6;
    private static final int WOKEN = 7;
    private static final int TIP = 8;
    private static final int KEPT_PROPERTIES = 7;
    private static final int PROPERTIES = 9;

    private static final int COUNTS = 9;

    private final Train train = new Train();
    private final History history = new History();
    private final Text text = new Text();

    public SleeperBerths() {
    }

    // ---- passengers

    public int book(int from, int to, boolean isThrough) throws IllegalArgumentException, IllegalStateException {
        requireWay(from, to);
        Offer offer = train.findBerths(from, to, isThrough);
        if (train.roster.isFull() || offer.isRefused()) {
            throw new IllegalStateException("the booking is refused");
        }
        history.keep(train);
        return train.admit(from, to, isThrough, offer);
    }

    public int cancel(int passenger) throws IndexOutOfBoundsException {
        int row = requireRow(passenger);
        int tip = train.property(row, TIP);
        history.keep(train);
        train.dismiss(row);
        return tip;
    }

    public int place(int passenger, int berth) throws IndexOutOfBoundsException, IllegalStateException {
        int row = requireRow(passenger);
        if (!isBelow(berth, BERTHS)) {
            throw new IndexOutOfBoundsException("no such berth");
        }
        if (!train.mayHave(row, berth)) {
            throw new IllegalStateException("the passenger cannot have this berth");
        }
        int previous = train.property(row, FIRST_BERTH);
        history.keep(train);
        train.reseat(row, new Offer(berth, berth, NONE));
        return previous;
    }

    public int rebook(int passenger) throws IndexOutOfBoundsException, IllegalStateException {
        int row = requireRow(passenger);
        if (train.property(row, PAID_THROUGH) == 1) {
            throw new IllegalStateException("the passenger has paid through");
        }
        Offer offer = train.findAnew(row);
        if (offer.isRefused()) {
            throw new IllegalStateException("the booking would be refused");
        }
        int wokenBefore = train.property(row, WOKEN);
        history.keep(train);
        train.reseat(row, offer);
        train.bookings++;
        return wokenBefore - train.property(row, WOKEN);
    }

    // ---- coaches

    public int cut(int coach, int station) throws IndexOutOfBoundsException, IllegalArgumentException, IllegalStateException {
        requireCoach(coach);
        if (station < 1 || station > LAST_STATION) {
            throw new IllegalArgumentException("a coach goes as far as a station from 1 to 9");
        }
        if (train.berths.areHadBehind(coach, station)) {
            throw new IllegalStateException("a passenger has a berth behind the station");
        }
        int previous = train.berths.endOf(coach);
        history.keep(train);
        train.berths.end(coach, station);
        return previous;
    }

    public int set(int setting, int value) throws IndexOutOfBoundsException, IllegalArgumentException {
        requireSetting(setting);
        if (value < 0 || value > greatestValue(setting)) {
            throw new IllegalArgumentException("the value is out of range");
        }
        int previous = read(train.settings, setting);
        history.keep(train);
        write(train.settings, setting, value);
        return previous;
    }

    // ---- texts

    public int append(int code) throws IllegalArgumentException, IllegalStateException {
        if (code < 33 || code > 126) {
            throw new IllegalArgumentException("the code is not 33 to 126");
        }
        if (text.isFull()) {
            throw new IllegalStateException("the buffer is full");
        }
        text.add(code);
        return text.length;
    }

    public int clearBuffer() {
        return text.empty();
    }

    public int firstError() {
        return text.firstFault();
    }

    public int bookAll() throws IllegalArgumentException {
        if (!text.isComplete()) {
            throw new IllegalArgumentException("the buffer is not complete passengers as a text");
        }
        history.keep(train);
        int booked = 0;
        for (int part = 0; part < text.length; part += text.isThrough(part) ? 5 : 4) {
            if (train.admitOrLeaveOut(text.from(part), text.to(part), text.isThrough(part))) {
                booked++;
            }
        }
        text.empty();
        return booked;
    }

    public int undo() throws IllegalStateException {
        if (history.size == 0) {
            throw new IllegalStateException("no state is saved");
        }
        history.restore(train);
        return history.size;
    }

    // ---- looks; nothing is changed

    public int holder(int berth, int leg) throws IndexOutOfBoundsException {
        if (!isBelow(berth, BERTHS) || !isBelow(leg, LEGS)) {
            throw new IndexOutOfBoundsException("no such berth or leg");
        }
        return train.berths.holderOn(berth, leg);
    }

    public int passenger(int place, int what) throws IllegalArgumentException {
        if (place < 0 || !isBelow(what, PROPERTIES)) {
            throw new IllegalArgumentException("no such place or property");
        }
        return place < train.roster.size ? train.property(place, what) : NONE;
    }

    public int count(int what) throws IllegalArgumentException {
        switch (what) {
            case 0: return train.roster.size;
            case 1: return train.sumOf(PAID_THROUGH);
            case 2: return train.roster.changing();
            case 3: return train.sumOf(WOKEN);
            case 4: return train.sumOf(TIP);
            case 5: return train.berths.allHad();
            case 6: return train.bookings;
            case 7: return train.leftOut;
            case 8: return history.size;
            default: throw new IllegalArgumentException("no such count");
        }
    }

    public int free(int leg, int what) throws IndexOutOfBoundsException, IllegalArgumentException {
        if (!isBelow(leg, LEGS)) {
            throw new IndexOutOfBoundsException("no such leg");
        }
        if (!isBelow(what, 2)) {
            throw new IllegalArgumentException("what is not 0 or 1");
        }
        return what == 0 ? train.berths.openOn(leg) : train.berths.lowestOpenOn(leg);
    }

    public int goesTo(int coach) throws IndexOutOfBoundsException {
        requireCoach(coach);
        return train.berths.endOf(coach);
    }

    public int setting(int setting) throws IndexOutOfBoundsException {
        requireSetting(setting);
        return read(train.settings, setting);
    }

    // ---- what would be; nothing is changed

    public int ifBooked(int from, int to, boolean isThrough, int what) throws IllegalArgumentException {
        requireWay(from, to);
        if (!isBelow(what, 4)) {
            throw new IllegalArgumentException("what is not 0 to 3");
        }
        return tell(train.findBerths(from, to, isThrough), from, to, what);
    }

    public int whyNot(int from, int to) throws IllegalArgumentException {
        requireWay(from, to);
        if (train.berths.farthestOpen(from) >= to) {
            return 0;
        }
        if (train.berths.farthestEnd() < to) {
            return 1;
        }
        return train.berths.areAllHadOnce(from, to) ? 2 : 3;
    }

    public int farthest(int from) throws IllegalArgumentException {
        if (!isBelow(from, LEGS)) {
            throw new IllegalArgumentException("from is out of range");
        }
        return train.berths.farthestOpen(from);
    }

    public double fullness() {
        int had = train.berths.allHad();
        int all = had + train.berths.allOpen();
        return all == 0 ? 0.0 : (double) had / (double) all;
    }

    public long digest() {
        long hash = 2999L;
        for (int what = 0; what < COUNTS; what++) {
            hash = mix(hash, count(what));
        }
        for (int index = 0; index < SETTINGS; index++) {
            hash = mix(hash, read(train.settings, index));
        }
        hash = mixCoaches(hash);
        hash = mixPassengers(hash);
        hash = mixWays(hash);
        hash = mix(hash, bitsOf(fullness()));
        return mixText(hash);
    }

    private int tell(Offer offer, int from, int to, int what) {
        if (offer.isRefused()) {
            return what == 0 ? 0 : NONE;
        }
        switch (what) {
            case 0: return offer.changeAt == NONE ? 1 : 2;
            case 1: return offer.first;
            case 2: return offer.changeAt;
            default: return train.berths.wokenIn(offer.first, from, offer.middle(to))
                    + train.berths.wokenIn(offer.last, offer.middle(to), to);
        }
    }

    // ---- the digest, part by part

    private long mixCoaches(long start) {
        long hash = start;
        for (int coach = 0; coach < COACHES; coach++) {
            hash = mix(hash, train.berths.endOf(coach));
        }
        for (int berth = 0; berth < BERTHS; berth++) {
            for (int leg = 0; leg < LEGS; leg++) {
                hash = mix(hash, train.berths.holderOn(berth, leg));
            }
        }
        return hash;
    }

    private long mixPassengers(long start) {
        long hash = start;
        for (int row = 0; row < train.roster.size; row++) {
            for (int what = 0; what < PROPERTIES; what++) {
                hash = mix(hash, train.property(row, what));
            }
        }
        return hash;
    }

    private long mixWays(long start) {
        long hash = start;
        for (int leg = 0; leg < LEGS; leg++) {
            hash = mix(hash, free(leg, 0));
            hash = mix(hash, free(leg, 1));
        }
        for (int station = 0; station < LAST_STATION; station++) {
            hash = mix(hash, farthest(station));
            hash = mix(hash, whyNot(station, LAST_STATION));
        }
        Offer offer = train.findBerths(1, 8, false);
        for (int what = 0; what < 4; what++) {
            hash = mix(hash, tell(offer, 1, 8, what));
        }
        return hash;
    }

    private long mixText(long start) {
        long hash = mix(start, text.length);
        for (int index = 0; index < text.length; index++) {
            hash = mix(hash, text.codeAt(index));
        }
        return hash;
    }

    private static long mix(long hash, long value) {
        return 31L * hash + value;
    }

    /**
     * The bits of a share from 0 to 1. LANGUAGE.md leaves no Double.doubleToLongBits, so they are put
     * together here; doubling and the cast lose nothing, as a double has 52 bits behind its first one.
     */
    private static long bitsOf(double share) {
        if (!(share > 0.0)) {
            return 0L;
        }
        long exponent = 1023L;
        double significand = share;
        while (significand < 1.0 && exponent > 1L) {
            significand = significand * 2.0;
            exponent--;
        }
        long firstBit = 1L << 52;
        long behindFirstBit = (long) (significand * (double) firstBit) - firstBit;
        return (exponent << 52) + behindFirstBit;
    }

    // ---- what arguments may be

    private static boolean isBelow(int index, int bound) {
        return index >= 0 && index < bound;
    }

    private static void requireWay(int from, int to) {
        if (!isBelow(from, LAST_STATION) || to <= from || to > LAST_STATION) {
            throw new IllegalArgumentException("from or to is out of range");
        }
    }

    private static void requireCoach(int coach) {
        if (!isBelow(coach, COACHES)) {
            throw new IndexOutOfBoundsException("no such coach");
        }
    }

    private static void requireSetting(int index) {
        if (!isBelow(index, SETTINGS)) {
            throw new IndexOutOfBoundsException("no such setting");
        }
    }

    private int requireRow(int number) {
        int row = train.roster.rowOf(number);
        if (row == NONE) {
            throw new IndexOutOfBoundsException("no such passenger");
        }
        return row;
    }

    private static int greatestValue(int index) {
        return index == GREATEST_TIP ? 50 : LAST_STATION;
    }

    // ---- arrays, with each index looked at first, so that the machine never throws

    private static int read(int[] cells, int index) {
        return index >= 0 && index < cells.length ? cells[index] : NONE;
    }

    private static void write(int[] cells, int index, int value) {
        if (index >= 0 && index < cells.length) {
            cells[index] = value;
        }
    }

    private static void copyAll(int[] source, int[] target) {
        for (int index = 0; index < target.length; index++) {
            write(target, index, read(source, index));
        }
    }

    /** The berths that a passenger gets: one on the whole way, or two and the station between them. */
    private static final class Offer {
        final int first;
        final int last;
        final int changeAt;

        Offer(int first, int last, int changeAt) {
            this.first = first;
            this.last = last;
            this.changeAt = changeAt;
        }

        boolean isRefused() {
            return first == NONE;
        }

        /** The station up to which the first berth is had, on a way to this one. */
        int middle(int to) {
            return changeAt == NONE ? to : changeAt;
        }
    }

    /** Who has which berth on which leg, and how far the coaches go. */
    private static final class Berths {
        private final int[] holders = new int[BERTHS * LEGS];
        private final int[] ends = new int[COACHES];

        Berths() {
            for (int cell = 0; cell < holders.length; cell++) {
                holders[cell] = NONE;
            }
            for (int coach = 0; coach < ends.length; coach++) {
                ends[coach] = LAST_STATION;
            }
        }

        void takeOver(Berths other) {
            copyAll(other.holders, holders);
            copyAll(other.ends, ends);
        }

        int endOf(int coach) {
            return read(ends, coach);
        }

        void end(int coach, int station) {
            write(ends, coach, station);
        }

        int holderOn(int berth, int leg) {
            return read(holders, berth * LEGS + leg);
        }

        void give(int berth, int from, int to, int holder) {
            for (int leg = from; leg < to; leg++) {
                write(holders, berth * LEGS + leg, holder);
            }
        }

        boolean isOpen(int berth, int leg) {
            int coach = berth / BERTHS_OF_A_COACH;
            int cell = berth * LEGS + leg;
            return coach >= 0 && coach < ends.length && leg < ends[coach]
                    && cell >= 0 && cell < holders.length && holders[cell] == NONE;
        }

        /** The station up to which a berth can be had from this one on; itself, if not even on its leg. */
        int openTill(int berth, int from) {
            int station = from;
            while (station < LAST_STATION && isOpen(berth, station)) {
                station++;
            }
            return station;
        }

        int farthestOpen(int from) {
            int farthest = from;
            for (int berth = 0; berth < BERTHS; berth++) {
                farthest = Math.max(farthest, openTill(berth, from));
            }
            return farthest;
        }

        /** The berth that can be had on the way with the fewest wakings, the lowest of several, or NONE. */
        int calmest(int from, int to) {
            int best = NONE;
            int fewest = 0;
            for (int berth = 0; berth < BERTHS; berth++) {
                if (openTill(berth, from) >= to) {
                    int woken = wokenIn(berth, from, to);
                    if (best == NONE || woken < fewest) {
                        best = berth;
                        fewest = woken;
                    }
                }
            }
            return best;
        }

        int wokenIn(int berth, int from, int to) {
            int neighbour = berth % 2 == 0 ? berth + 1 : berth - 1;
            int woken = 0;
            for (int station = from + 1; station < to; station++) {
                int ahead = neighbour * LEGS + station;
                if (ahead > 0 && ahead < holders.length && holders[ahead - 1] != holders[ahead]) {
                    woken++;
                }
            }
            return woken;
        }

        int openOn(int leg) {
            int open = 0;
            for (int berth = 0; berth < BERTHS; berth++) {
                if (isOpen(berth, leg)) {
                    open++;
                }
            }
            return open;
        }

        int lowestOpenOn(int leg) {
            for (int berth = 0; berth < BERTHS; berth++) {
                if (isOpen(berth, leg)) {
                    return berth;
                }
            }
            return NONE;
        }

        int allOpen() {
            int open = 0;
            for (int leg = 0; leg < LEGS; leg++) {
                open += openOn(leg);
            }
            return open;
        }

        int allHad() {
            int had = 0;
            for (int cell = 0; cell < holders.length; cell++) {
                if (holders[cell] != NONE) {
                    had++;
                }
            }
            return had;
        }

        boolean areAllHadOnce(int from, int to) {
            for (int leg = from; leg < to; leg++) {
                if (openOn(leg) == 0) {
                    return true;
                }
            }
            return false;
        }

        boolean areHadBehind(int coach, int station) {
            int lowest = coach * BERTHS_OF_A_COACH;
            for (int berth = lowest; berth < lowest + BERTHS_OF_A_COACH; berth++) {
                for (int leg = station; leg < LEGS; leg++) {
                    if (holderOn(berth, leg) != NONE) {
                        return true;
                    }
                }
            }
            return false;
        }

        int farthestEnd() {
            int farthest = 0;
            for (int coach = 0; coach < COACHES; coach++) {
                farthest = Math.max(farthest, endOf(coach));
            }
            return farthest;
        }
    }

    /** The passengers at the time, a row each, in the order of their numbers. */
    private static final class Roster {
        private final int[] cells = new int[MOST_PASSENGERS * KEPT_PROPERTIES];
        int size;

        void takeOver(Roster other) {
            copyAll(other.cells, cells);
            size = other.size;
        }

        boolean isFull() {
            return size >= MOST_PASSENGERS;
        }

        int at(int row, int property) {
            int cell = row * KEPT_PROPERTIES + property;
            return cell >= 0 && cell < cells.length ? cells[cell] : NONE;
        }

        private void put(int row, int property, int value) {
            write(cells, row * KEPT_PROPERTIES + property, value);
        }

        int rowOf(int number) {
            for (int row = 0; row < size; row++) {
                if (at(row, NUMBER) == number) {
                    return row;
                }
            }
            return NONE;
        }

        /** A newcomer has the greatest number so far, so the last row keeps the rows in order. */
        int addRow(int number, int from, int to, boolean isThrough) {
            int row = size;
            put(row, NUMBER, number);
            put(row, FROM, from);
            put(row, TO, to);
            put(row, PAID_THROUGH, isThrough ? 1 : 0);
            size++;
            return row;
        }

        void putBerths(int row, Offer offer) {
            put(row, FIRST_BERTH, offer.first);
            put(row, LAST_BERTH, offer.last);
            put(row, CHANGE_AT, offer.changeAt);
        }

        /** The station up to which the first berth is had. */
        int middle(int row) {
            int changeAt = at(row, CHANGE_AT);
            return changeAt == NONE ? at(row, TO) : changeAt;
        }

        void dropRow(int row) {
            size--;
            for (int next = row; next < size; next++) {
                for (int property = 0; property < KEPT_PROPERTIES; property++) {
                    put(next, property, at(next + 1, property));
                }
            }
        }

        int changing() {
            int changing = 0;
            for (int row = 0; row < size; row++) {
                if (at(row, CHANGE_AT) != NONE) {
                    changing++;
                }
            }
            return changing;
        }
    }

    /** All that undo brings back. */
    private static final class Train {
        final Berths berths = new Berths();
        final Roster roster = new Roster();
        final int[] settings = {3, 6, 10};
        int nextNumber;
        int bookings;
        int leftOut;

        void takeOver(Train other) {
            berths.takeOver(other.berths);
            roster.takeOver(other.roster);
            copyAll(other.settings, settings);
            nextNumber = other.nextNumber;
            bookings = other.bookings;
            leftOut = other.leftOut;
        }

        boolean isNight(int station) {
            return station >= read(settings, NIGHT_BEGINS) && station <= read(settings, NIGHT_ENDS);
        }

        Offer findBerths(int from, int to, boolean isThrough) {
            int berth = berths.calmest(from, to);
            if (berth != NONE || isThrough) {
                return new Offer(berth, berth, NONE);
            }
            int changeAt = calmestChange(from, to);
            if (changeAt == NONE) {
                return new Offer(NONE, NONE, NONE);
            }
            return new Offer(berths.calmest(from, changeAt), berths.calmest(changeAt, to), changeAt);
        }

        /**
         * The station at which to change with the fewest wakings, or NONE. The two berths can be sought one
         * by one, as neither wakes in the other; they are unlike, as no berth can be had on the whole way.
         */
        private int calmestChange(int from, int to) {
            int best = NONE;
            int fewest = 0;
            for (int station = from + 1; station < to; station++) {
                int first = isNight(station) ? NONE : berths.calmest(from, station);
                int last = first == NONE ? NONE : berths.calmest(station, to);
                if (last != NONE) {
                    int woken = berths.wokenIn(first, from, station) + berths.wokenIn(last, station, to);
                    if (best == NONE || woken < fewest) {
                        best = station;
                        fewest = woken;
                    }
                }
            }
            return best;
        }

        /** What the passenger would get who had no berth yet. */
        Offer findAnew(int row) {
            giveBerths(row, NONE);
            Offer offer = findBerths(roster.at(row, FROM), roster.at(row, TO), false);
            giveBerths(row, roster.at(row, NUMBER));
            return offer;
        }

        int admit(int from, int to, boolean isThrough, Offer offer) {
            int number = nextNumber;
            int row = roster.addRow(number, from, to, isThrough);
            roster.putBerths(row, offer);
            giveBerths(row, number);
            nextNumber++;
            bookings++;
            return number;
        }

        boolean admitOrLeaveOut(int from, int to, boolean isThrough) {
            Offer offer = findBerths(from, to, isThrough);
            if (roster.isFull() || offer.isRefused()) {
                leftOut++;
                return false;
            }
            admit(from, to, isThrough, offer);
            return true;
        }

        void dismiss(int row) {
            giveBerths(row, NONE);
            roster.dropRow(row);
        }

        void reseat(int row, Offer offer) {
            giveBerths(row, NONE);
            roster.putBerths(row, offer);
            giveBerths(row, roster.at(row, NUMBER));
        }

        private void giveBerths(int row, int holder) {
            int middle = roster.middle(row);
            berths.give(roster.at(row, FIRST_BERTH), roster.at(row, FROM), middle, holder);
            berths.give(roster.at(row, LAST_BERTH), middle, roster.at(row, TO), holder);
        }

        boolean mayHave(int row, int berth) {
            if (roster.at(row, PAID_THROUGH) == 1 && roster.at(row, FIRST_BERTH) != berth) {
                return false;
            }
            int to = roster.at(row, TO);
            if (to > berths.endOf(berth / BERTHS_OF_A_COACH)) {
                return false;
            }
            for (int leg = roster.at(row, FROM); leg < to; leg++) {
                int holder = berths.holderOn(berth, leg);
                if (holder != NONE && holder != roster.at(row, NUMBER)) {
                    return false;
                }
            }
            return true;
        }

        int property(int row, int what) {
            switch (what) {
                case WOKEN: return woken(row);
                case TIP: return tipLessBy(row, woken(row));
                default: return roster.at(row, what);
            }
        }

        private int woken(int row) {
            int middle = roster.middle(row);
            return berths.wokenIn(roster.at(row, FIRST_BERTH), roster.at(row, FROM), middle)
                    + berths.wokenIn(roster.at(row, LAST_BERTH), middle, roster.at(row, TO));
        }

        private int tipLessBy(int row, int woken) {
            int lessByChange = roster.at(row, CHANGE_AT) == NONE ? 0 : CHANGE_COSTS;
            return Math.max(0, read(settings, GREATEST_TIP) - woken - lessByChange);
        }

        int sumOf(int what) {
            int sum = 0;
            for (int row = 0; row < roster.size; row++) {
                sum += property(row, what);
            }
            return sum;
        }
    }

    /** The saved states, in a ring of trains that are made once and used again. */
    private static final class History {
        private final Train[] ring = new Train[MOST_SAVED];
        private int oldest;
        int size;

        History() {
            for (int index = 0; index < ring.length; index++) {
                ring[index] = new Train();
            }
        }

        private Train saved(int age) {
            int index = (oldest + age) % MOST_SAVED;
            return index >= 0 && index < ring.length ? ring[index] : null;
        }

        void keep(Train train) {
            if (size == MOST_SAVED) {
                oldest = (oldest + 1) % MOST_SAVED;
                size--;
            }
            Train next = saved(size);
            if (next != null) {
                next.takeOver(train);
            }
            size++;
        }

        void restore(Train train) {
            size--;
            Train latest = saved(size);
            if (latest != null) {
                train.takeOver(latest);
            }
        }
    }

    /** The buffer, read as passengers: parts like 0-9 or 3-7! with ; between them. */
    private static final class Text {
        private final int[] codes = new int[MOST_CODES];
        int length;

        boolean isFull() {
            return length >= MOST_CODES;
        }

        void add(int code) {
            write(codes, length, code);
            length++;
        }

        int empty() {
            int before = length;
            length = 0;
            return before;
        }

        int codeAt(int index) {
            return index < length ? read(codes, index) : NONE;
        }

        int firstFault() {
            int part = 0;
            for (int index = 0; index < length; index++) {
                if (!fits(index, index - part)) {
                    return index;
                }
                if (codeAt(index) == ';') {
                    part = index + 1;
                }
            }
            return length;
        }

        /** No part begins at the last station, as no later one is left. */
        private boolean fits(int index, int placeInPart) {
            int code = codeAt(index);
            switch (placeInPart) {
                case 0: return code >= '0' && code <= '8';
                case 1: return code == '-';
                case 2: return code > codeAt(index - 2) && code <= '9';
                case 3: return code == '!' || code == ';';
                default: return code == ';';
            }
        }

        boolean isComplete() {
            boolean endsWithAPart = codeAt(length - 1) == '!' || codeAt(length - 2) == '-';
            return endsWithAPart && firstFault() == length;
        }

        int from(int part) {
            return codeAt(part) - '0';
        }

        int to(int part) {
            return codeAt(part + 2) - '0';
        }

        boolean isThrough(int part) {
            return codeAt(part + 3) == '!';
        }
    }
}
