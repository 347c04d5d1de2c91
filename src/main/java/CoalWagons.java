/** A pool of coal wagons between mines and a port; ../shared/DOC.md tells what it promises. */
public final class CoalWagons {
    public static final int INVALID_ARGUMENT = -2000000001;
    public static final int NOT_POSSIBLE = -2000000002;
    public static final int LIMIT_REACHED = -2000000003;
    public static final int NOT_FOUND = -2000000004;

    private static final int PORT = 0;
    private static final int NO_PLACE = -1;
    private static final int MOST_MINES = 4;
    private static final int MOST_PLACES = 5;
    private static final int MOST_WAGONS = 20;
    private static final int MOST_STATES = 4;
    private static final int MOST_SIGNS = 60;
    private static final int MOST_NUMBERS = 4;
    private static final int MOST_IN_TRAIN = 8;
    private static final int MOST_RATE = 90;
    private static final int MOST_HEAP = 999;
    private static final int MOST_LEG = 9;
    private static final int FIRST_LEG = 2;
    private static final int MOST_DAYS = 99;
    private static final int LAST_DAY = 1999;
    private static final int WAGON_TONNES = 30;
    private static final int SHOP_PLACES = 2;

    private static final int STANDS = 0;
    private static final int ON_ITS_WAY = 1;
    private static final int IN_REPAIR = 2;
    private static final int WAITING = -1;

    private static final int EMPTY_ONES = 0;
    private static final int LOADED_ONES = 1;
    private static final int BOTH = 2;

    private static final int FREE_DAYS = 0;
    private static final int DEMURRAGE = 1;
    private static final int HIRE = 2;
    private static final int WEAR = 3;
    private static final int PRICE = 4;
    private static final int REPAIR_COST = 5;
    private static final int REPAIR_DAYS = 6;
    private static final int SETTINGS = 7;
    private static final int[] LOWEST_SETTING = {0, 0, 0, 1, 0, 0, 1};
    private static final int[] HIGHEST_SETTING = {30, 99, 99, 99, 99, 99, 30};
    private static final int[] FIRST_SETTING = {3, 10, 4, 20, 2, 25, 3};
    private static final int COUNT_OF_SETTINGS = 20;

    private static final int NOT_OF_THE_FORM = 1;
    private static final int NOT_DOABLE = 2;

    private final Pool now;
    private final Pool trial;
    private final History history;
    private final OrderText text;

    public CoalWagons() {
        now = new Pool();
        trial = new Pool();
        history = new History();
        text = new OrderText();
    }

    // ---- mines, legs, wagons

    public int mine(int rate) {
        trial.copyFrom(now);
        return settle(trial.addMine(rate));
    }

    public int leg(int one, int other, int days) {
        trial.copyFrom(now);
        return settle(trial.changeLeg(one, other, days));
    }

    public int wagon(int mine) {
        trial.copyFrom(now);
        return settle(trial.addWagon(mine));
    }

    // ---- work

    public int load(int wagon) {
        trial.copyFrom(now);
        return settle(trial.loadWagon(wagon));
    }

    public int unload(int wagon) {
        trial.copyFrom(now);
        return settle(trial.unloadWagon(wagon));
    }

    public int repair(int wagon) {
        trial.copyFrom(now);
        return settle(trial.repairWagon(wagon));
    }

    public int train(int from, int to, int kind, int many) {
        trial.copyFrom(now);
        return settle(trial.sendTrain(from, to, kind, many));
    }

    public int pass(int days) {
        trial.copyFrom(now);
        return settle(trial.passDays(days));
    }

    public int set(int what, int value) {
        trial.copyFrom(now);
        return settle(trial.changeSetting(what, value));
    }

    // ---- what there is

    public int wagonOf(int wagon, int what) {
        return now.tellOfWagon(wagon, what);
    }

    public int placeOf(int place, int what) {
        return now.tellOfPlace(place, what);
    }

    public int days(int one, int other) {
        return now.isLeg(one, other) ? now.legDays(one, other) : INVALID_ARGUMENT;
    }

    // ---- what would be

    public int would(int place, int days) {
        if (!now.isPlace(place) || !within(days, 0, MOST_DAYS)) {
            return INVALID_ARGUMENT;
        }
        trial.copyFrom(now);
        // The last day bounds the call of pass alone: what would be goes on behind it.
        trial.letDaysPass(days);
        return trial.accountOf(place);
    }

    public int lacks(int mine) {
        return now.isMine(mine) ? now.lackOf(mine) : INVALID_ARGUMENT;
    }

    public int bestTrain(int what) {
        if (!within(what, 0, 2)) {
            return INVALID_ARGUMENT;
        }
        int to = now.neediestMine();
        int from = to == NO_PLACE ? NO_PLACE : now.nearestToSpare(to);
        if (from == NO_PLACE) {
            return NOT_FOUND;
        }
        if (what == 0) {
            return from;
        }
        if (what == 1) {
            return to;
        }
        return Math.min(MOST_IN_TRAIN, Math.min(now.lackOf(to), now.spareOf(from)));
    }

    public int share(int mine) {
        if (!now.isMine(mine)) {
            return INVALID_ARGUMENT;
        }
        int owned = now.ownedBy(mine);
        if (owned == 0) {
            return NOT_FOUND;
        }
        return bitsOfShare((float) now.loadedOf(mine) / (float) owned);
    }

    public int count(int what) {
        if (what == 13) {
            return history.size();
        }
        if (what == 14) {
            return text.length();
        }
        return now.tellNumber(what);
    }

    public int undo() {
        if (history.size() == 0) {
            return NOT_POSSIBLE;
        }
        history.takeLatest(now);
        return history.size();
    }

    // ---- texts

    public int type(int character) {
        return text.append(character);
    }

    public int clearText() {
        return text.clear();
    }

    public int fault(int what) {
        if (!within(what, 0, 2)) {
            return INVALID_ARGUMENT;
        }
        trial.copyFrom(now);
        text.doAll(trial);
        if (!text.hasFault()) {
            return NOT_FOUND;
        }
        if (what == 0) {
            return text.position();
        }
        return what == 1 ? text.reason() : text.cause();
    }

    public int play() {
        trial.copyFrom(now);
        text.doAll(trial);
        return settle(text.hasFault() ? NOT_POSSIBLE : text.orders());
    }

    // ---- how it is done

    /** Every change is tried on a copy, so that an error leaves everything as it was. */
    private int settle(int answer) {
        if (!isError(answer)) {
            history.record(now);
            now.copyFrom(trial);
        }
        return answer;
    }

    private static boolean isError(int answer) {
        return within(answer, NOT_FOUND, INVALID_ARGUMENT);
    }

    private static boolean within(int value, int lowest, int highest) {
        return value >= lowest && value <= highest;
    }

    /** The bits of a float from 0 to 1, by arithmetic, as LANGUAGE.md has no call for them. */
    private static int bitsOfShare(float share) {
        if (!(share > 0f)) {
            return 0;
        }
        float scaled = share;
        int exponent = 127;
        while (scaled < 1f && exponent > 1) {
            scaled = scaled * 2f;
            exponent--;
        }
        // From 1 to below 2 a float times 2 to the 23rd is whole: the cast loses nothing.
        int fraction = (int) (scaled * 8388608f) - 8388608;
        return (exponent << 23) + fraction;
    }

    /** A wagon; what it is and does is set by the pool, which knows the day. */
    private static final class Wagon {
        private int owner;
        private int place;
        private int state;
        private boolean loaded;
        private int wear;
        /** The day from which it counts its standing. */
        private int since;
        /** The day on which it comes or its repair ends; WAITING for a place in the shop. */
        private int until;
        /** The days of its journey, kept as the leg may change below the train. */
        private int journey;
        private int loads;

        void copyFrom(Wagon other) {
            owner = other.owner;
            place = other.place;
            state = other.state;
            loaded = other.loaded;
            wear = other.wear;
            since = other.since;
            until = other.until;
            journey = other.journey;
            loads = other.loads;
        }

        void standFrom(int day) {
            state = STANDS;
            since = day;
        }

        void leaveFor(int to, int day, int days) {
            state = ON_ITS_WAY;
            place = to;
            journey = days;
            until = day + days;
        }

        boolean standsAt(int where) {
            return state == STANDS && place == where;
        }

        boolean isOnItsWayTo(int where) {
            return state == ON_ITS_WAY && place == where;
        }

        boolean isHired() {
            return state == STANDS && place != PORT && place != owner;
        }

        boolean isLoadedAtPort() {
            return loaded && state == STANDS && place == PORT;
        }

        boolean isOfKind(int kind) {
            return kind == BOTH || loaded == (kind == LOADED_ONES);
        }
    }

    /** A mine, or the port, whose account is that of the pool. */
    private static final class Place {
        private int rate;
        private int heap;
        private int account;
        private int demurrage;
        private int hire;
        private int tonnes;

        void copyFrom(Place other) {
            rate = other.rate;
            heap = other.heap;
            account = other.account;
            demurrage = other.demurrage;
            hire = other.hire;
            tonnes = other.tonnes;
        }

        void grow() {
            heap = heap + rate > MOST_HEAP ? MOST_HEAP : heap + rate;
        }

        void pay(Place receiver, int amount) {
            account -= amount;
            receiver.account += amount;
        }

        void payHire(Place lender, int amount) {
            account -= amount;
            hire -= amount;
            lender.account += amount;
            lender.hire += amount;
        }

        void payDemurrage(Place port, int amount) {
            account -= amount;
            demurrage += amount;
            port.account += amount;
            port.demurrage += amount;
        }

        int loadsOfHeap() {
            return heap / WAGON_TONNES;
        }
    }

    /** The numbers of the wagons in repair, those that came first ahead. */
    private static final class Shop {
        private final int[] queue;
        private int size;

        Shop() {
            queue = new int[MOST_WAGONS];
        }

        void copyFrom(Shop other) {
            System.arraycopy(other.queue, 0, queue, 0, MOST_WAGONS);
            size = other.size;
        }

        int size() {
            return size;
        }

        int atWork() {
            return size < SHOP_PLACES ? size : SHOP_PLACES;
        }

        int numberAt(int index) {
            return index >= 0 && index < queue.length ? queue[index] : 0;
        }

        void enter(int number) {
            if (size >= 0 && size < queue.length) {
                queue[size] = number;
                size++;
            }
        }

        void leave(int index) {
            for (int k = index; k >= 0 && k + 1 < size && k + 1 < queue.length; k++) {
                queue[k] = queue[k + 1];
            }
            size--;
        }
    }

    /** All that a change can change: what the history keeps. */
    private static final class Pool {
        private final Place[] places;
        private final Wagon[] wagons;
        private final int[] legs;
        private final int[] settings;
        private final Shop shop;
        private int mines;
        private int wagonCount;
        private int day;
        private int repairsEnded;
        private int trains;
        private int emptyTrains;

        Pool() {
            places = new Place[MOST_PLACES];
            for (int k = 0; k < MOST_PLACES; k++) {
                places[k] = new Place();
            }
            wagons = new Wagon[MOST_WAGONS];
            for (int k = 0; k < MOST_WAGONS; k++) {
                wagons[k] = new Wagon();
            }
            legs = new int[MOST_PLACES * MOST_PLACES];
            for (int k = 0; k < MOST_PLACES * MOST_PLACES; k++) {
                legs[k] = FIRST_LEG;
            }
            settings = new int[SETTINGS];
            for (int k = 0; k < SETTINGS; k++) {
                settings[k] = FIRST_SETTING[k];
            }
            shop = new Shop();
        }

        void copyFrom(Pool other) {
            for (int k = 0; k < MOST_PLACES; k++) {
                places[k].copyFrom(other.places[k]);
            }
            // Also those behind wagonCount: after an undo they must be as new again.
            for (int k = 0; k < MOST_WAGONS; k++) {
                wagons[k].copyFrom(other.wagons[k]);
            }
            System.arraycopy(other.legs, 0, legs, 0, MOST_PLACES * MOST_PLACES);
            System.arraycopy(other.settings, 0, settings, 0, SETTINGS);
            shop.copyFrom(other.shop);
            mines = other.mines;
            wagonCount = other.wagonCount;
            day = other.day;
            repairsEnded = other.repairsEnded;
            trains = other.trains;
            emptyTrains = other.emptyTrains;
        }

        // ---- what is allowed, and where it is kept

        boolean isPlace(int number) {
            return within(number, PORT, mines);
        }

        boolean isMine(int number) {
            return within(number, PORT + 1, mines);
        }

        boolean isLeg(int one, int other) {
            return isPlace(one) && isPlace(other) && one != other;
        }

        private boolean isWagon(int number) {
            return within(number, 0, wagonCount - 1);
        }

        // Numbers are tested as they come in; the tests of these only keep the arrays safe.

        private Place placeAt(int number) {
            return number >= 0 && number < places.length ? places[number] : places[PORT];
        }

        private Wagon wagonAt(int number) {
            return number >= 0 && number < wagons.length ? wagons[number] : wagons[0];
        }

        private int setting(int what) {
            return what >= 0 && what < settings.length ? settings[what] : 0;
        }

        int legDays(int one, int other) {
            int index = one * MOST_PLACES + other;
            return index >= 0 && index < legs.length ? legs[index] : FIRST_LEG;
        }

        private void keepLeg(int one, int other, int days) {
            int index = one * MOST_PLACES + other;
            if (index >= 0 && index < legs.length) {
                legs[index] = days;
            }
        }

        int accountOf(int place) {
            return placeAt(place).account;
        }

        private boolean isDue(Wagon wagon) {
            return wagon.wear >= setting(WEAR);
        }

        // ---- mines, legs, wagons

        int addMine(int rate) {
            if (!within(rate, 0, MOST_RATE)) {
                return INVALID_ARGUMENT;
            }
            if (mines >= MOST_MINES) {
                return LIMIT_REACHED;
            }
            mines++;
            placeAt(mines).rate = rate;
            return mines;
        }

        int changeLeg(int one, int other, int days) {
            if (!isLeg(one, other) || !within(days, 1, MOST_LEG)) {
                return INVALID_ARGUMENT;
            }
            int before = legDays(one, other);
            keepLeg(one, other, days);
            keepLeg(other, one, days);
            return before;
        }

        int addWagon(int mine) {
            if (!isMine(mine)) {
                return INVALID_ARGUMENT;
            }
            if (wagonCount >= MOST_WAGONS) {
                return LIMIT_REACHED;
            }
            int number = wagonCount;
            wagonCount++;
            Wagon wagon = wagonAt(number);
            wagon.owner = mine;
            wagon.place = mine;
            wagon.standFrom(day);
            return number;
        }

        // ---- work

        int loadWagon(int number) {
            if (!isWagon(number)) {
                return INVALID_ARGUMENT;
            }
            Wagon wagon = wagonAt(number);
            if (whyNotLoaded(wagon) != 0) {
                return NOT_POSSIBLE;
            }
            Place mine = placeAt(wagon.place);
            mine.heap -= WAGON_TONNES;
            mine.tonnes += WAGON_TONNES;
            wagon.loaded = true;
            wagon.loads++;
            wagon.standFrom(day);
            return mine.heap;
        }

        private int whyNotLoaded(Wagon wagon) {
            if (wagon.state == ON_ITS_WAY) {
                return 1;
            }
            if (wagon.state == IN_REPAIR) {
                return 2;
            }
            if (wagon.loaded) {
                return 3;
            }
            if (wagon.place == PORT) {
                return 4;
            }
            if (isDue(wagon)) {
                return 5;
            }
            return placeAt(wagon.place).heap < WAGON_TONNES ? 6 : 0;
        }

        int unloadWagon(int number) {
            if (!isWagon(number)) {
                return INVALID_ARGUMENT;
            }
            Wagon wagon = wagonAt(number);
            if (!wagon.isLoadedAtPort()) {
                return NOT_POSSIBLE;
            }
            wagon.loaded = false;
            wagon.standFrom(day);
            Place port = placeAt(PORT);
            Place owner = placeAt(wagon.owner);
            port.tonnes += WAGON_TONNES;
            port.pay(owner, WAGON_TONNES * setting(PRICE));
            return owner.account;
        }

        int repairWagon(int number) {
            if (!isWagon(number)) {
                return INVALID_ARGUMENT;
            }
            Wagon wagon = wagonAt(number);
            if (wagon.loaded || !wagon.standsAt(PORT)) {
                return NOT_POSSIBLE;
            }
            placeAt(wagon.owner).pay(placeAt(PORT), setting(REPAIR_COST));
            int ahead = shop.size();
            wagon.state = IN_REPAIR;
            wagon.until = WAITING;
            shop.enter(number);
            beginRepairs();
            return ahead;
        }

        int sendTrain(int from, int to, int kind, int many) {
            if (!isLeg(from, to) || !within(kind, EMPTY_ONES, BOTH) || !within(many, 1, MOST_IN_TRAIN)) {
                return INVALID_ARGUMENT;
            }
            int leg = legDays(from, to);
            int set = 0;
            int taken = 0;
            boolean allEmpty = true;
            for (int k = 0; k < wagonCount && taken < many; k++) {
                Wagon wagon = wagonAt(k);
                if (wagon.standsAt(from) && wagon.isOfKind(kind)) {
                    wagon.leaveFor(to, day, leg);
                    set |= 1 << k;
                    taken++;
                    allEmpty = allEmpty && !wagon.loaded;
                }
            }
            if (taken == 0) {
                return NOT_POSSIBLE;
            }
            trains++;
            if (allEmpty) {
                emptyTrains++;
            }
            return set;
        }

        int passDays(int days) {
            if (!within(days, 1, MOST_DAYS)) {
                return INVALID_ARGUMENT;
            }
            if (day + days > LAST_DAY) {
                return LIMIT_REACHED;
            }
            return letDaysPass(days);
        }

        int changeSetting(int what, int value) {
            if (!within(what, 0, SETTINGS - 1)
                    || !within(value, LOWEST_SETTING[what], HIGHEST_SETTING[what])) {
                return INVALID_ARGUMENT;
            }
            int before = settings[what];
            settings[what] = value;
            return before;
        }

        // ---- days

        int letDaysPass(int days) {
            int arrived = 0;
            for (int k = 0; k < days; k++) {
                day++;
                growHeaps();
                arrived += arrive();
                endRepairs();
                beginRepairs();
                // The standing needs no step: it is told from the day on which it began.
                payForTheDay();
            }
            return arrived;
        }

        private void growHeaps() {
            for (int k = 1; k <= mines; k++) {
                placeAt(k).grow();
            }
        }

        private int arrive() {
            int arrived = 0;
            for (int k = 0; k < wagonCount; k++) {
                Wagon wagon = wagonAt(k);
                if (wagon.state == ON_ITS_WAY && wagon.until == day) {
                    wagon.wear += wagon.journey;
                    wagon.standFrom(day);
                    arrived++;
                }
            }
            return arrived;
        }

        private void endRepairs() {
            // From behind, as those behind one that leaves move up.
            for (int k = shop.atWork() - 1; k >= 0; k--) {
                Wagon wagon = wagonAt(shop.numberAt(k));
                if (wagon.until == day) {
                    shop.leave(k);
                    wagon.wear = 0;
                    wagon.standFrom(day);
                    repairsEnded++;
                }
            }
        }

        private void beginRepairs() {
            for (int k = 0; k < shop.atWork(); k++) {
                Wagon wagon = wagonAt(shop.numberAt(k));
                if (wagon.until == WAITING) {
                    wagon.until = day + setting(REPAIR_DAYS);
                }
            }
        }

        private void payForTheDay() {
            Place port = placeAt(PORT);
            int hire = setting(HIRE);
            int demurrage = setting(DEMURRAGE);
            int freeDays = setting(FREE_DAYS);
            for (int k = 0; k < wagonCount; k++) {
                Wagon wagon = wagonAt(k);
                Place owner = placeAt(wagon.owner);
                if (wagon.isHired()) {
                    placeAt(wagon.place).payHire(owner, hire);
                }
                if (wagon.isLoadedAtPort() && day - wagon.since > freeDays) {
                    owner.payDemurrage(port, demurrage);
                }
            }
        }

        // ---- what there is

        int tellOfWagon(int number, int what) {
            if (!isWagon(number) || !within(what, 0, 8)) {
                return INVALID_ARGUMENT;
            }
            Wagon wagon = wagonAt(number);
            switch (what) {
                case 0:
                    return wagon.owner;
                case 1:
                    return wagon.place;
                case 2:
                    return wagon.loaded ? 1 : 0;
                case 3:
                    return wagon.state;
                case 4:
                    return wagon.wear;
                case 5:
                    return wagon.state == STANDS ? day - wagon.since : NOT_FOUND;
                case 6:
                    return wagon.state == STANDS || wagon.until == WAITING ? NOT_FOUND : wagon.until - day;
                case 7:
                    return whyNotLoaded(wagon);
                default:
                    return wagon.loads;
            }
        }

        int tellOfPlace(int number, int what) {
            if (!isPlace(number) || !within(what, 0, 9)) {
                return INVALID_ARGUMENT;
            }
            if (number == PORT && (what == 0 || what == 1 || what == 5 || what == 8)) {
                return NOT_FOUND;
            }
            Place place = placeAt(number);
            switch (what) {
                case 0:
                    return place.heap;
                case 1:
                    return place.rate;
                case 2:
                    return setStanding(number, EMPTY_ONES);
                case 3:
                    return setStanding(number, LOADED_ONES);
                case 4:
                    return setOnTheWayTo(number);
                case 5:
                    return setOwnedBy(number);
                case 6:
                    return place.account;
                case 7:
                    return place.demurrage;
                case 8:
                    return place.hire;
                default:
                    return place.tonnes;
            }
        }

        private int setStanding(int place, int kind) {
            int set = 0;
            for (int k = 0; k < wagonCount; k++) {
                Wagon wagon = wagonAt(k);
                if (wagon.standsAt(place) && wagon.isOfKind(kind)) {
                    set |= 1 << k;
                }
            }
            return set;
        }

        private int setOnTheWayTo(int place) {
            int set = 0;
            for (int k = 0; k < wagonCount; k++) {
                if (wagonAt(k).isOnItsWayTo(place)) {
                    set |= 1 << k;
                }
            }
            return set;
        }

        private int setOwnedBy(int mine) {
            int set = 0;
            for (int k = 0; k < wagonCount; k++) {
                if (wagonAt(k).owner == mine) {
                    set |= 1 << k;
                }
            }
            return set;
        }

        int tellNumber(int what) {
            if (within(what, COUNT_OF_SETTINGS, COUNT_OF_SETTINGS + SETTINGS - 1)) {
                return setting(what - COUNT_OF_SETTINGS);
            }
            switch (what) {
                case 0:
                    return mines;
                case 1:
                    return wagonCount;
                case 2:
                    return day;
                case 3:
                    return countStanding(EMPTY_ONES);
                case 4:
                    return countStanding(LOADED_ONES);
                case 5:
                    return countOnTheWay();
                case 6:
                    return shop.size();
                case 7:
                    return allAccounts();
                case 8:
                    return allTonnes();
                case 9:
                    return repairsEnded;
                case 10:
                    return trains;
                case 11:
                    return emptyTrains;
                case 12:
                    return countDue();
                default:
                    return INVALID_ARGUMENT;
            }
        }

        private int countStanding(int kind) {
            int count = 0;
            for (int k = 0; k < wagonCount; k++) {
                Wagon wagon = wagonAt(k);
                if (wagon.state == STANDS && wagon.isOfKind(kind)) {
                    count++;
                }
            }
            return count;
        }

        private int countOnTheWay() {
            int count = 0;
            for (int k = 0; k < wagonCount; k++) {
                if (wagonAt(k).state == ON_ITS_WAY) {
                    count++;
                }
            }
            return count;
        }

        private int countDue() {
            int count = 0;
            for (int k = 0; k < wagonCount; k++) {
                if (isDue(wagonAt(k))) {
                    count++;
                }
            }
            return count;
        }

        private int allAccounts() {
            int sum = 0;
            for (int k = 0; k <= mines; k++) {
                sum += accountOf(k);
            }
            return sum;
        }

        private int allTonnes() {
            int sum = 0;
            for (int k = 1; k <= mines; k++) {
                sum += placeAt(k).heap;
            }
            for (int k = 0; k < wagonCount; k++) {
                if (wagonAt(k).loaded) {
                    sum += WAGON_TONNES;
                }
            }
            return sum;
        }

        // ---- what would be

        int lackOf(int mine) {
            int coming = 0;
            for (int k = 0; k < wagonCount; k++) {
                Wagon wagon = wagonAt(k);
                if (wagon.isOnItsWayTo(mine) && !wagon.loaded) {
                    coming++;
                }
            }
            return Math.max(0, placeAt(mine).loadsOfHeap() - readyAt(mine) - coming);
        }

        /** The port has no heap, so that all that are ready there are to spare. */
        int spareOf(int place) {
            return readyAt(place) - placeAt(place).loadsOfHeap();
        }

        private int readyAt(int place) {
            int ready = 0;
            for (int k = 0; k < wagonCount; k++) {
                Wagon wagon = wagonAt(k);
                if (wagon.standsAt(place) && !wagon.loaded && !isDue(wagon)) {
                    ready++;
                }
            }
            return ready;
        }

        int neediestMine() {
            int neediest = NO_PLACE;
            int most = 0;
            for (int k = 1; k <= mines; k++) {
                int lack = lackOf(k);
                if (lack > most) {
                    neediest = k;
                    most = lack;
                }
            }
            return neediest;
        }

        int nearestToSpare(int to) {
            int nearest = NO_PLACE;
            int fewest = MOST_LEG + 1;
            for (int k = PORT; k <= mines; k++) {
                if (k != to && spareOf(k) > 0 && legDays(k, to) < fewest) {
                    nearest = k;
                    fewest = legDays(k, to);
                }
            }
            return nearest;
        }

        int ownedBy(int mine) {
            return Integer.bitCount(setOwnedBy(mine));
        }

        int loadedOf(int mine) {
            int loaded = 0;
            for (int k = 0; k < wagonCount; k++) {
                Wagon wagon = wagonAt(k);
                if (wagon.owner == mine && wagon.loaded) {
                    loaded++;
                }
            }
            return loaded;
        }
    }

    /** The latest states, in a ring of rows that are made once and used again. */
    private static final class History {
        private final Pool[] states;
        private int oldest;
        private int size;

        History() {
            states = new Pool[MOST_STATES];
            for (int k = 0; k < MOST_STATES; k++) {
                states[k] = new Pool();
            }
        }

        int size() {
            return size;
        }

        private Pool stateAt(int age) {
            return states[Math.floorMod(oldest + age, MOST_STATES)];
        }

        void record(Pool state) {
            if (size >= MOST_STATES) {
                oldest = Math.floorMod(oldest + 1, MOST_STATES);
                size--;
            }
            stateAt(size).copyFrom(state);
            size++;
        }

        void takeLatest(Pool target) {
            if (size > 0) {
                size--;
                target.copyFrom(stateAt(size));
            }
        }
    }

    /** The characters that were typed, and what became of the orders in them. */
    private static final class OrderText {
        private final int[] signs;
        private final int[] numbers;
        private int length;
        private int letter;
        private int at;
        private int orders;
        private int position;
        private int reason;
        private int cause;

        OrderText() {
            signs = new int[MOST_SIGNS];
            numbers = new int[MOST_NUMBERS];
        }

        int length() {
            return length;
        }

        int orders() {
            return orders;
        }

        boolean hasFault() {
            return reason != 0;
        }

        int position() {
            return position;
        }

        int reason() {
            return reason;
        }

        int cause() {
            return cause;
        }

        int append(int sign) {
            if (!within(sign, 32, 126)) {
                return INVALID_ARGUMENT;
            }
            if (length < 0 || length >= signs.length) {
                return LIMIT_REACHED;
            }
            signs[length] = sign;
            length++;
            return length;
        }

        int clear() {
            int before = length;
            length = 0;
            return before;
        }

        /** Does the orders one by one on a pool, until one has a fault. */
        void doAll(Pool pool) {
            at = 0;
            orders = 0;
            reason = 0;
            // Each order without a fault takes signs, so that there are no more of them than signs.
            for (int k = 0; k < MOST_SIGNS && at < length && !hasFault(); k++) {
                int start = at;
                if (!readOrder()) {
                    blame(start, NOT_OF_THE_FORM, at - start);
                } else {
                    int answer = doOrder(pool);
                    if (isError(answer)) {
                        blame(start, NOT_DOABLE, answer);
                    }
                    orders++;
                }
            }
        }

        private void blame(int where, int why, int what) {
            position = where;
            reason = why;
            cause = what;
        }

        private int doOrder(Pool pool) {
            switch (letter) {
                case 'w':
                    return pool.addWagon(numbers[0]);
                case 'l':
                    return pool.loadWagon(numbers[0]);
                case 'u':
                    return pool.unloadWagon(numbers[0]);
                case 'r':
                    return pool.repairWagon(numbers[0]);
                case 't':
                    return pool.sendTrain(numbers[0], numbers[1], numbers[2], numbers[3]);
                default:
                    return pool.passDays(numbers[0]);
            }
        }

        /** Reads to the sign at which an order breaks off, or behind its ";" if it is of the form. */
        private boolean readOrder() {
            letter = signAt(at);
            int wanted = numbersOf(letter);
            if (wanted == 0) {
                return false;
            }
            at++;
            for (int k = 0; k < wanted; k++) {
                if (k > 0 && !readSign(',')) {
                    return false;
                }
                if (!readNumber(k)) {
                    return false;
                }
            }
            return readSign(';');
        }

        private static int numbersOf(int sign) {
            switch (sign) {
                case 'w':
                case 'l':
                case 'u':
                case 'r':
                case 'd':
                    return 1;
                case 't':
                    return MOST_NUMBERS;
                default:
                    return 0;
            }
        }

        private boolean readSign(int sign) {
            if (signAt(at) != sign) {
                return false;
            }
            at++;
            return true;
        }

        private boolean readNumber(int index) {
            if (!isDigit(signAt(at)) || index < 0 || index >= numbers.length) {
                return false;
            }
            int number = signAt(at) - '0';
            at++;
            if (isDigit(signAt(at))) {
                number = number * 10 + signAt(at) - '0';
                at++;
            }
            numbers[index] = number;
            return true;
        }

        /** Behind the text there is a sign that no order has, so that an order breaks off there. */
        private int signAt(int index) {
            return index >= 0 && index < signs.length && index < length ? signs[index] : -1;
        }

        private static boolean isDigit(int sign) {
            return sign >= '0' && sign <= '9';
        }
    }
}
