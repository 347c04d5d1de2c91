import java.util.ArrayList;
import java.util.List;

/** Runs of 512 calls, drawn by a fixed sequence of numbers, on the program and on the model. */
public final class ModelTest {
    private static final int RUNS = 3000;
    private static final int CALLS = 512;
    private static final int[] WILD = {Integer.MIN_VALUE, Integer.MAX_VALUE, -1, 1000000, -2000000001, 31, 32, 65536};

    private long seed;
    private CoalWagons program;
    private Model model;
    private List<String> done;
    private int[] seen = new int[5];
    /** How often a run asks for work rather than for answers, and how calmly: differs from run to run. */
    private int work;
    private int wild;
    private int longPass;

    public static void main(String[] args) {
        ModelTest test = new ModelTest();
        for (int run = 0; run < RUNS; run++) {
            test.run(run);
        }
        System.out.println(RUNS + " runs of " + CALLS + " calls; numbers and errors I, N, L, F: "
            + test.seen[0] + ", " + test.seen[1] + ", " + test.seen[2] + ", " + test.seen[3] + ", " + test.seen[4]);
    }

    private int below(int bound) {
        seed = seed * 6364136223846793005L + 1442695040888963407L;
        return (int) ((seed >>> 33) % bound);
    }

    private void run(int run) {
        seed = run;
        below(2);
        program = new CoalWagons();
        model = new Model();
        done = new ArrayList<>();
        work = 30 + below(60);
        wild = below(4) == 0 ? 25 : 2;
        longPass = below(4) == 0 ? 100 : 6;
        int mines = below(5);
        for (int k = 0; k < mines; k++) {
            ask("mine", below(91));
        }
        int wagons = mines == 0 ? 0 : below(21);
        for (int k = 0; k < wagons; k++) {
            ask("wagon", 1 + below(mines));
        }
        while (done.size() < CALLS) {
            if (below(100) < work) {
                change();
            } else {
                query();
            }
        }
    }

    private void ask(String name, int... a) {
        if (done.size() >= CALLS) {
            return;
        }
        for (int k = 0; k < a.length; k++) {
            if (below(100) < wild && below(3) == 0) {
                a[k] = WILD[below(WILD.length)];
            }
        }
        int want = model.answer(name, a);
        int got = Calls.answer(program, name, a);
        StringBuilder call = new StringBuilder(name).append('(');
        for (int k = 0; k < a.length; k++) {
            call.append(k == 0 ? "" : ",").append(a[k]);
        }
        done.add(call.append(")=").append(want).toString());
        seen[want > Model.I ? 0 : Model.I - want + 1]++;
        if (got != want) {
            System.out.println(String.join(" ", done));
            System.out.println("    answered " + got + ", the model has " + want);
            System.exit(1);
        }
    }

    private int place() {
        return below(12) == 0 ? below(7) - 1 : below(Math.max(1, model.w.rates.size()));
    }

    private int car() {
        return below(12) == 0 ? below(23) - 1 : below(Math.max(1, model.w.cars.size()));
    }

    private void change() {
        switch (below(24)) {
            case 0: ask("mine", below(94) - 1); break;
            case 1: ask("leg", place(), place(), below(12)); break;
            case 2: case 3: ask("wagon", place()); break;
            case 4: case 5: case 6: case 7: ask("load", car()); break;
            case 8: case 9: ask("unload", car()); break;
            case 10: case 11: case 12: ask("repair", car()); break;
            case 13: case 14: case 15: case 16: ask("train", place(), below(2) == 0 ? 0 : place(), below(12) == 0 ? 4 : below(3), below(11)); break;
            case 17: case 18: case 19: ask("pass", below(longPass) + below(12) / 11); break;
            case 20: setSomething(); break;
            case 21: ask("undo"); break;
            default: typeSomething(); break;
        }
    }

    private void setSomething() {
        int what = below(9) - 1;
        int value = below(2) == 0 ? below(6) : below(104) - 2;
        ask("set", what, value);
    }

    private void query() {
        switch (below(12)) {
            case 0: case 1: case 2: ask("wagonOf", car(), below(11) - 1); break;
            case 3: case 4: case 5: ask("placeOf", place(), below(12) - 1); break;
            case 6: ask("days", place(), place()); break;
            case 7: ask("would", place(), below(2) == 0 ? below(5) : below(103) - 2); break;
            case 8: ask("lacks", place()); break;
            case 9: ask("bestTrain", below(5) - 1); break;
            case 10: ask("share", place()); break;
            default: ask("count", below(30) - 1); break;
        }
    }

    private void typeSomething() {
        if (below(3) == 0) {
            ask("clearText");
        }
        int orders = below(5);
        for (int k = 0; k < orders; k++) {
            typeAll(below(12) == 0 ? spoilt(order()) : order());
        }
        for (int what = 0; what < 3; what++) {
            ask("fault", what);
        }
        if (below(2) == 0) {
            ask("play");
        }
        if (below(4) == 0) {
            ask("fault", below(5) - 1);
        }
    }

    private String order() {
        switch (below(7)) {
            case 0: return "w" + digits(place()) + ";";
            case 1: return "l" + digits(car()) + ";";
            case 2: return "u" + digits(car()) + ";";
            case 3: return "r" + digits(car()) + ";";
            case 4: return "d" + digits(below(4)) + ";";
            case 5: return "d" + digits(below(100)) + ";";
            default: return "t" + digits(place()) + "," + digits(place()) + "," + digits(below(4)) + "," + digits(below(10)) + ";";
        }
    }

    private String digits(int number) {
        int shown = Math.max(0, Math.min(99, number));
        return shown < 10 && below(4) == 0 ? "0" + shown : String.valueOf(shown);
    }

    private String spoilt(String order) {
        int at = below(order.length());
        String signs = "wlurtd0123456789;,; x~";
        String sign = below(3) == 0 ? "" : String.valueOf(signs.charAt(below(signs.length())));
        return order.substring(0, at) + sign + order.substring(at + below(2));
    }

    private void typeAll(String signs) {
        for (int k = 0; k < signs.length(); k++) {
            ask("type", signs.charAt(k));
        }
    }
}
