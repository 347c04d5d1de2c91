import java.util.ArrayList;
import java.util.Arrays;
import java.util.Collections;
import java.util.List;
import java.util.function.Predicate;
import java.util.regex.Matcher;
import java.util.regex.Pattern;

/**
 * The document told a second time, in another way than the program: trains and repairs are things
 * of their own, the standing is counted day by day, states are copied whole, and orders are read by
 * a pattern. ModelTest compares the two.
 */
final class Model {
    static final int I = -2000000001;
    static final int N = -2000000002;
    static final int L = -2000000003;
    static final int F = -2000000004;
    private static final Pattern ORDER =
        Pattern.compile("(?:([wlurd])(\\d{1,2})|t(\\d{1,2}),(\\d{1,2}),(\\d{1,2}),(\\d{1,2}));");

    static final class Car {
        int number;
        int owner;
        /** The place where it stands; -1 if it does not. */
        int stands;
        boolean loaded;
        int wear;
        int standing;
        int loads;
        boolean rested;

        Car copy() {
            Car c = new Car();
            c.number = number;
            c.owner = owner;
            c.stands = stands;
            c.loaded = loaded;
            c.wear = wear;
            c.standing = standing;
            c.loads = loads;
            return c;
        }
    }

    record Train(int to, int days, int left, List<Integer> cars) {
    }

    record Repair(int car, int left) {
    }

    static final class World implements Cloneable {
        int day;
        int ended;
        int trainsSent;
        int emptySent;
        List<Car> cars = new ArrayList<>();
        List<Train> trains = new ArrayList<>();
        /** Those that are repaired, then those that wait, with -1 days left. */
        List<Repair> shop = new ArrayList<>();
        List<Integer> rates = new ArrayList<>(List.of(0));
        long[] heap = new long[5];
        long[] account = new long[5];
        long[] demurrage = new long[5];
        long[] hire = new long[5];
        long[] tonnes = new long[5];
        int[][] leg = new int[5][5];
        int[] set = {3, 10, 4, 20, 2, 25, 3};

        World copy() {
            World w = new World();
            w.day = day;
            w.ended = ended;
            w.trainsSent = trainsSent;
            w.emptySent = emptySent;
            for (Car c : cars) {
                w.cars.add(c.copy());
            }
            w.trains.addAll(trains);
            w.shop.addAll(shop);
            w.rates = new ArrayList<>(rates);
            w.heap = heap.clone();
            w.account = account.clone();
            w.demurrage = demurrage.clone();
            w.hire = hire.clone();
            w.tonnes = tonnes.clone();
            for (int k = 0; k < 5; k++) {
                w.leg[k] = leg[k].clone();
            }
            w.set = set.clone();
            return w;
        }
    }

    World w = new World();
    final List<World> history = new ArrayList<>();
    String text = "";

    Model() {
        for (int[] row : w.leg) {
            Arrays.fill(row, 2);
        }
    }

    int answer(String name, int... a) {
        switch (name) {
            case "mine": case "leg": case "wagon": case "load": case "unload": case "repair": case "train":
            case "pass": case "set": case "play":
                World before = w.copy();
                int got = name.equals("play") ? play() : change(name, a);
                if (got <= I) {
                    w = before;
                } else {
                    history.add(before);
                    if (history.size() == 5) {
                        history.remove(0);
                    }
                }
                return got;
            case "wagonOf": return wagonOf(a[0], a[1]);
            case "placeOf": return placeOf(a[0], a[1]);
            case "days": return !place(a[0]) || !place(a[1]) || a[0] == a[1] ? I : w.leg[a[0]][a[1]];
            case "would": return would(a[0], a[1]);
            case "lacks": return mineIs(a[0]) ? lacks(a[0]) : I;
            case "bestTrain": return a[0] < 0 || a[0] > 2 ? I : bestTrain(a[0]);
            case "share": return share(a[0]);
            case "count": return count(a[0]);
            case "undo":
                if (history.isEmpty()) {
                    return N;
                }
                w = history.remove(history.size() - 1);
                return history.size();
            case "type":
                if (a[0] < 32 || a[0] > 126) {
                    return I;
                }
                if (text.length() == 60) {
                    return L;
                }
                text += (char) a[0];
                return text.length();
            case "clearText":
                int length = text.length();
                text = "";
                return length;
            case "fault": return fault(a[0]);
            default: throw new IllegalArgumentException(name);
        }
    }

    private boolean place(int p) {
        return p >= 0 && p < w.rates.size();
    }

    private boolean mineIs(int p) {
        return p >= 1 && p < w.rates.size();
    }

    private boolean carIs(int c) {
        return c >= 0 && c < w.cars.size();
    }

    private int change(String name, int... a) {
        switch (name) {
            case "mine":
                if (a[0] < 0 || a[0] > 90) {
                    return I;
                }
                if (w.rates.size() == 5) {
                    return L;
                }
                w.rates.add(a[0]);
                return w.rates.size() - 1;
            case "leg":
                if (!place(a[0]) || !place(a[1]) || a[0] == a[1] || a[2] < 1 || a[2] > 9) {
                    return I;
                }
                int was = w.leg[a[0]][a[1]];
                w.leg[a[0]][a[1]] = a[2];
                w.leg[a[1]][a[0]] = a[2];
                return was;
            case "wagon":
                if (!mineIs(a[0])) {
                    return I;
                }
                if (w.cars.size() == 20) {
                    return L;
                }
                Car car = new Car();
                car.number = w.cars.size();
                car.owner = a[0];
                car.stands = a[0];
                w.cars.add(car);
                return car.number;
            case "load": return carIs(a[0]) ? load(w.cars.get(a[0])) : I;
            case "unload": return carIs(a[0]) ? unload(w.cars.get(a[0])) : I;
            case "repair": return carIs(a[0]) ? repair(w.cars.get(a[0])) : I;
            case "train": return train(a[0], a[1], a[2], a[3]);
            case "pass":
                if (a[0] < 1 || a[0] > 99) {
                    return I;
                }
                return w.day + a[0] > 1999 ? L : daysOn(w, a[0]);
            case "set":
                int[] top = {30, 99, 99, 99, 99, 99, 30};
                if (a[0] < 0 || a[0] > 6 || a[1] > top[a[0]] || a[1] < (a[0] == 3 || a[0] == 6 ? 1 : 0)) {
                    return I;
                }
                int old = w.set[a[0]];
                w.set[a[0]] = a[1];
                return old;
            default: throw new IllegalArgumentException(name);
        }
    }

    private int why(Car c) {
        boolean[] so = {onWay(c.number) != null, c.stands < 0, c.loaded, c.stands == 0, c.wear >= w.set[3],
            c.stands > 0 && w.heap[c.stands] < 30};
        for (int k = 0; k < so.length; k++) {
            if (so[k]) {
                return k + 1;
            }
        }
        return 0;
    }

    private Train onWay(int car) {
        for (Train t : w.trains) {
            if (t.cars.contains(car)) {
                return t;
            }
        }
        return null;
    }

    private int load(Car c) {
        if (why(c) != 0) {
            return N;
        }
        c.loaded = true;
        c.loads++;
        c.standing = 0;
        w.tonnes[c.stands] += 30;
        w.heap[c.stands] -= 30;
        return (int) w.heap[c.stands];
    }

    private int unload(Car c) {
        if (!c.loaded || c.stands != 0) {
            return N;
        }
        c.loaded = false;
        c.standing = 0;
        w.tonnes[0] += 30;
        w.account[0] -= 30L * w.set[4];
        w.account[c.owner] += 30L * w.set[4];
        return (int) w.account[c.owner];
    }

    private int repair(Car c) {
        if (c.loaded || c.stands != 0) {
            return N;
        }
        c.stands = -1;
        w.account[0] += w.set[5];
        w.account[c.owner] -= w.set[5];
        w.shop.add(new Repair(c.number, w.shop.size() < 2 ? w.set[6] : -1));
        return w.shop.size() - 1;
    }

    private int train(int from, int to, int kind, int many) {
        if (!place(from) || !place(to) || from == to || kind < 0 || kind > 2 || many < 1 || many > 8) {
            return I;
        }
        List<Integer> going = new ArrayList<>();
        int set = 0;
        boolean load = false;
        for (Car c : w.cars) {
            if (c.stands == from && (kind == 2 || (kind == 1) == c.loaded) && going.size() < many) {
                going.add(c.number);
                set += (int) Math.pow(2, c.number);
                load |= c.loaded;
                c.stands = -1;
            }
        }
        if (going.isEmpty()) {
            return N;
        }
        w.trains.add(new Train(to, w.leg[from][to], w.leg[from][to], going));
        w.trainsSent++;
        w.emptySent += load ? 0 : 1;
        return set;
    }

    private static int daysOn(World w, int days) {
        int came = 0;
        for (int k = 0; k < days; k++) {
            came += dayOn(w);
        }
        return came;
    }

    private static int dayOn(World w) {
        w.day++;
        for (int m = 1; m < w.rates.size(); m++) {
            w.heap[m] = Math.min(999, w.heap[m] + w.rates.get(m));
        }
        for (Car c : w.cars) {
            c.rested = c.stands >= 0;
        }
        int came = 0;
        List<Train> going = new ArrayList<>();
        for (Train t : w.trains) {
            if (t.left > 1) {
                going.add(new Train(t.to, t.days, t.left - 1, t.cars));
                continue;
            }
            for (int number : t.cars) {
                Car c = w.cars.get(number);
                c.stands = t.to;
                c.standing = 0;
                c.wear += t.days;
                came++;
            }
        }
        w.trains = going;
        repairsOn(w);
        for (Car c : w.cars) {
            if (c.rested) {
                c.standing++;
            }
        }
        for (Car c : w.cars) {
            if (c.loaded && c.stands == 0 && c.standing > w.set[0]) {
                w.account[c.owner] -= w.set[1];
                w.account[0] += w.set[1];
                w.demurrage[c.owner] += w.set[1];
                w.demurrage[0] += w.set[1];
            } else if (c.stands > 0) {
                // To itself a mine pays, too: that comes to nothing.
                w.account[c.stands] -= w.set[2];
                w.hire[c.stands] -= w.set[2];
                w.account[c.owner] += w.set[2];
                w.hire[c.owner] += w.set[2];
            }
        }
        return came;
    }

    private static void repairsOn(World w) {
        List<Repair> still = new ArrayList<>();
        for (Repair r : w.shop) {
            if (r.left == 1) {
                Car c = w.cars.get(r.car);
                c.stands = 0;
                c.standing = 0;
                c.wear = 0;
                w.ended++;
            } else {
                still.add(r.left > 0 ? new Repair(r.car, r.left - 1) : r);
            }
        }
        for (int k = 0; k < still.size() && k < 2; k++) {
            if (still.get(k).left < 0) {
                still.set(k, new Repair(still.get(k).car, w.set[6]));
            }
        }
        w.shop = still;
    }

    private int wagonOf(int number, int what) {
        if (!carIs(number) || what < 0 || what > 8) {
            return I;
        }
        Car c = w.cars.get(number);
        Train t = onWay(number);
        int left = t != null ? t.left : F;
        for (Repair r : w.shop) {
            if (r.car == number && r.left > 0) {
                left = r.left;
            }
        }
        int[] all = {c.owner, t != null ? t.to : Math.max(0, c.stands), c.loaded ? 1 : 0,
            c.stands >= 0 ? 0 : t != null ? 1 : 2, c.wear, c.stands >= 0 ? c.standing : F, left, why(c), c.loads};
        return all[what];
    }

    private int bits(Predicate<Car> which) {
        int set = 0;
        for (Car c : w.cars) {
            set += which.test(c) ? (int) Math.pow(2, c.number) : 0;
        }
        return set;
    }

    private int many(Predicate<Car> which) {
        return (int) w.cars.stream().filter(which).count();
    }

    private int placeOf(int p, int what) {
        if (!place(p) || what < 0 || what > 9) {
            return I;
        }
        if (p == 0 && List.of(0, 1, 5, 8).contains(what)) {
            return F;
        }
        switch (what) {
            case 0: return (int) w.heap[p];
            case 1: return w.rates.get(p);
            case 2: return bits(c -> c.stands == p && !c.loaded);
            case 3: return bits(c -> c.stands == p && c.loaded);
            case 4: return bits(c -> onWay(c.number) != null && onWay(c.number).to == p);
            case 5: return bits(c -> c.owner == p);
            case 6: return (int) w.account[p];
            case 7: return (int) w.demurrage[p];
            case 8: return (int) w.hire[p];
            default: return (int) w.tonnes[p];
        }
    }

    private int would(int p, int days) {
        if (!place(p) || days < 0 || days > 99) {
            return I;
        }
        World later = w.copy();
        daysOn(later, days);
        return (int) later.account[p];
    }

    private int fit(int p) {
        return many(c -> c.stands == p && !c.loaded && c.wear < w.set[3]);
    }

    private int lacks(int m) {
        int coming = many(c -> onWay(c.number) != null && onWay(c.number).to == m && !c.loaded);
        return Math.max(0, (int) w.heap[m] / 30 - fit(m) - coming);
    }

    private int bestTrain(int what) {
        List<Integer> mines = new ArrayList<>();
        for (int m = 1; m < w.rates.size(); m++) {
            if (lacks(m) > 0) {
                mines.add(m);
            }
        }
        if (mines.isEmpty()) {
            return F;
        }
        mines.sort((a, b) -> lacks(a) != lacks(b) ? lacks(b) - lacks(a) : a - b);
        int to = mines.get(0);
        List<Integer> sources = new ArrayList<>();
        for (int p = 0; p < w.rates.size(); p++) {
            if (p != to && spare(p) > 0) {
                sources.add(p);
            }
        }
        if (sources.isEmpty()) {
            return F;
        }
        int from = Collections.min(sources, (a, b) -> w.leg[a][to] != w.leg[b][to] ? w.leg[a][to] - w.leg[b][to] : a - b);
        return what == 0 ? from : what == 1 ? to : Math.min(8, Math.min(lacks(to), spare(from)));
    }

    private int spare(int p) {
        return p == 0 ? fit(0) : fit(p) - (int) w.heap[p] / 30;
    }

    private int share(int m) {
        if (!mineIs(m)) {
            return I;
        }
        int owned = many(c -> c.owner == m);
        return owned == 0 ? F : Float.floatToIntBits((float) many(c -> c.owner == m && c.loaded) / (float) owned);
    }

    private int count(int what) {
        if (what >= 20 && what <= 26) {
            return w.set[what - 20];
        }
        switch (what) {
            case 0: return w.rates.size() - 1;
            case 1: return w.cars.size();
            case 2: return w.day;
            case 3: return many(c -> c.stands >= 0 && !c.loaded);
            case 4: return many(c -> c.stands >= 0 && c.loaded);
            case 5: return many(c -> onWay(c.number) != null);
            case 6: return w.shop.size();
            case 7: return 0;
            case 8: return (int) Arrays.stream(w.heap).sum() + 30 * many(c -> c.loaded);
            case 9: return w.ended;
            case 10: return w.trainsSent;
            case 11: return w.emptySent;
            case 12: return many(c -> c.wear >= w.set[3]);
            case 13: return history.size();
            case 14: return text.length();
            default: return I;
        }
    }

    /** The fault as position, reason and cause, or the number of orders alone; leaves the world as it is then. */
    private int[] doText() {
        int at = 0;
        int orders = 0;
        while (at < text.length()) {
            Matcher m = ORDER.matcher(text).region(at, text.length());
            if (!m.lookingAt()) {
                return new int[] {at, 1, breaksOff(text.substring(at))};
            }
            int got = m.group(1) == null
                ? change("train", groups(m, 3, 4, 5, 6))
                : change(nameOf(m.group(1)), groups(m, 2));
            if (got <= I) {
                return new int[] {at, 2, got};
            }
            at = m.end();
            orders++;
        }
        return new int[] {orders};
    }

    private static int[] groups(Matcher m, int... groups) {
        return Arrays.stream(groups).map(k -> Integer.parseInt(m.group(k))).toArray();
    }

    private static String nameOf(String letter) {
        return List.of("wagon", "load", "unload", "repair", "pass").get("wlurd".indexOf(letter));
    }

    /** The length of the longest beginning that some order has, too. */
    private static int breaksOff(String order) {
        int good = 0;
        for (int k = 1; k <= order.length(); k++) {
            Matcher m = ORDER.matcher(order.substring(0, k));
            if (m.matches() || m.hitEnd()) {
                good = k;
            } else {
                break;
            }
        }
        return good;
    }

    private int fault(int what) {
        if (what < 0 || what > 2) {
            return I;
        }
        World before = w.copy();
        int[] found = doText();
        w = before;
        return found.length == 1 ? F : found[what];
    }

    private int play() {
        int[] found = doText();
        return found.length == 1 ? found[0] : N;
    }
}
