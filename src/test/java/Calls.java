import java.util.ArrayList;
import java.util.Collections;
import java.util.List;

/**
 * Runs calls that are written as words: "mine(60)=1 wagon(1)=0 load(0)=N". What is due may be a
 * number or a letter for an error (I, N, L, F), or be left out. A word in quotes is typed, sign by
 * sign; an underscore in it stands for a space. "20*pass(99)=0" is the same word 20 times.
 */
final class Calls {
    private static int asked = 0;
    private static int wrong = 0;

    private Calls() {
    }

    static CoalWagons run(String words) {
        CoalWagons x = new CoalWagons();
        more(x, words);
        return x;
    }

    static void more(CoalWagons x, String words) {
        List<String> done = new ArrayList<>();
        for (String word : split(words)) {
            done.add(word);
            int got = doWord(x, word);
            int equals = isTyped(word) ? -1 : word.indexOf('=');
            if (equals >= 0) {
                due(String.join(" ", done), got, number(word.substring(equals + 1)));
            }
        }
    }

    static List<String> split(String words) {
        List<String> all = new ArrayList<>();
        for (String word : words.trim().split("\\s+")) {
            int times = 1;
            String once = word;
            if (word.matches("\\d+\\*.*")) {
                times = Integer.parseInt(word.substring(0, word.indexOf('*')));
                once = word.substring(word.indexOf('*') + 1);
            }
            all.addAll(Collections.nCopies(times, once));
        }
        return all;
    }

    static boolean isTyped(String word) {
        return word.startsWith("\"");
    }

    /** The answer of one word, whatever is due; 0 for one that is typed. */
    static int doWord(CoalWagons x, String word) {
        if (isTyped(word)) {
            typeAll(x, word.substring(1, word.length() - 1).replace('_', ' '));
            return 0;
        }
        int equals = word.indexOf('=');
        return answer(x, equals < 0 ? word : word.substring(0, equals));
    }

    /** Everything that the questions tell, but how many states the history has. */
    static String tellAll(CoalWagons x) {
        StringBuilder all = new StringBuilder();
        for (int what = 0; what <= 26; what++) {
            all.append(what == 13 ? 0 : x.count(what)).append(' ');
        }
        for (int k = 0; k < x.count(1); k++) {
            for (int what = 0; what <= 8; what++) {
                all.append(x.wagonOf(k, what)).append(' ');
            }
        }
        for (int k = 0; k <= 4; k++) {
            for (int what = 0; what <= 9; what++) {
                all.append(x.placeOf(k, what)).append(' ');
            }
            for (int other = 0; other <= 4; other++) {
                all.append(x.days(k, other)).append(' ');
            }
            all.append(x.would(k, 50)).append(' ').append(x.lacks(k)).append(' ').append(x.share(k)).append(' ');
        }
        for (int what = 0; what <= 2; what++) {
            all.append(x.bestTrain(what)).append(' ').append(x.fault(what)).append(' ');
        }
        return all.toString();
    }

    static void due(String what, long got, long want) {
        asked++;
        if (got != want) {
            wrong++;
            System.out.println(what + "\n    answered " + got + ", due is " + want);
        }
    }

    static void end() {
        System.out.println(asked + " answers asked, " + wrong + " wrong");
        if (wrong != 0 || asked == 0) {
            System.exit(1);
        }
    }

    static void typeAll(CoalWagons x, String signs) {
        for (char sign : signs.toCharArray()) {
            x.type(sign);
        }
    }

    static int number(String word) {
        switch (word) {
            case "I": return CoalWagons.INVALID_ARGUMENT;
            case "N": return CoalWagons.NOT_POSSIBLE;
            case "L": return CoalWagons.LIMIT_REACHED;
            case "F": return CoalWagons.NOT_FOUND;
            default: return Integer.parseInt(word);
        }
    }

    static int answer(CoalWagons x, String call) {
        int open = call.indexOf('(');
        String name = call.substring(0, open);
        String inside = call.substring(open + 1, call.length() - 1);
        String[] parts = inside.isEmpty() ? new String[0] : inside.split(",");
        int[] a = new int[parts.length];
        for (int k = 0; k < parts.length; k++) {
            a[k] = Integer.parseInt(parts[k]);
        }
        return answer(x, name, a);
    }

    static int answer(CoalWagons x, String name, int... a) {
        switch (name) {
            case "mine": return x.mine(a[0]);
            case "leg": return x.leg(a[0], a[1], a[2]);
            case "wagon": return x.wagon(a[0]);
            case "load": return x.load(a[0]);
            case "unload": return x.unload(a[0]);
            case "repair": return x.repair(a[0]);
            case "train": return x.train(a[0], a[1], a[2], a[3]);
            case "pass": return x.pass(a[0]);
            case "set": return x.set(a[0], a[1]);
            case "wagonOf": return x.wagonOf(a[0], a[1]);
            case "placeOf": return x.placeOf(a[0], a[1]);
            case "days": return x.days(a[0], a[1]);
            case "would": return x.would(a[0], a[1]);
            case "lacks": return x.lacks(a[0]);
            case "bestTrain": return x.bestTrain(a[0]);
            case "share": return x.share(a[0]);
            case "count": return x.count(a[0]);
            case "undo": return x.undo();
            case "type": return x.type(a[0]);
            case "clearText": return x.clearText();
            case "fault": return x.fault(a[0]);
            case "play": return x.play();
            default: throw new IllegalArgumentException(name);
        }
    }
}
