import java.util.ArrayList;
import java.util.List;

/**
 * Runs calls that are written as words: "mine(60)=1 wagon(1)=0 load(0)=N". What is due may be a
 * number or a letter for an error (I, N, L, F), or be left out. A word in quotes is typed, sign by
 * sign; an underscore in it stands for a space.
 */
final class Calls {
    private static int asked = 0;
    private static int wrong = 0;

    private Calls() {
    }

    static CoalWagons run(String words) {
        CoalWagons x = new CoalWagons();
        more(x, words);
        return x;
    }

    static void more(CoalWagons x, String words) {
        List<String> done = new ArrayList<>();
        for (String word : words.trim().split("\\s+")) {
            done.add(word);
            if (word.startsWith("\"")) {
                typeAll(x, word.substring(1, word.length() - 1).replace('_', ' '));
                continue;
            }
            int equals = word.indexOf('=');
            String call = equals < 0 ? word : word.substring(0, equals);
            int got = answer(x, call);
            if (equals >= 0) {
                due(String.join(" ", done), got, number(word.substring(equals + 1)));
            }
        }
    }

    static void due(String what, long got, long want) {
        asked++;
        if (got != want) {
            wrong++;
            System.out.println(what + "\n    answered " + got + ", due is " + want);
        }
    }

    static void end() {
        System.out.println(asked + " answers asked, " + wrong + " wrong");
        if (wrong != 0 || asked == 0) {
            System.exit(1);
        }
    }

    static void typeAll(CoalWagons x, String signs) {
        for (char sign : signs.toCharArray()) {
            x.type(sign);
        }
    }

    static int number(String word) {
        switch (word) {
            case "I": return CoalWagons.INVALID_ARGUMENT;
            case "N": return CoalWagons.NOT_POSSIBLE;
            case "L": return CoalWagons.LIMIT_REACHED;
            case "F": return CoalWagons.NOT_FOUND;
            default: return Integer.parseInt(word);
        }
    }

    static int answer(CoalWagons x, String call) {
        int open = call.indexOf('(');
        String name = call.substring(0, open);
        String inside = call.substring(open + 1, call.length() - 1);
        String[] parts = inside.isEmpty() ? new String[0] : inside.split(",");
        int[] a = new int[parts.length];
        for (int k = 0; k < parts.length; k++) {
            a[k] = Integer.parseInt(parts[k]);
        }
        return answer(x, name, a);
    }

    static int answer(CoalWagons x, String name, int... a) {
        switch (name) {
            case "mine": return x.mine(a[0]);
            case "leg": return x.leg(a[0], a[1], a[2]);
            case "wagon": return x.wagon(a[0]);
            case "load": return x.load(a[0]);
            case "unload": return x.unload(a[0]);
            case "repair": return x.repair(a[0]);
            case "train": return x.train(a[0], a[1], a[2], a[3]);
            case "pass": return x.pass(a[0]);
            case "set": return x.set(a[0], a[1]);
            case "wagonOf": return x.wagonOf(a[0], a[1]);
            case "placeOf": return x.placeOf(a[0], a[1]);
            case "days": return x.days(a[0], a[1]);
            case "would": return x.would(a[0], a[1]);
            case "lacks": return x.lacks(a[0]);
            case "bestTrain": return x.bestTrain(a[0]);
            case "share": return x.share(a[0]);
            case "count": return x.count(a[0]);
            case "undo": return x.undo();
            case "type": return x.type(a[0]);
            case "clearText": return x.clearText();
            case "fault": return x.fault(a[0]);
            case "play": return x.play();
            default: throw new IllegalArgumentException(name);
        }
    }
}
