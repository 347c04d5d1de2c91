import java.io.IOException;
import java.util.List;

/**
 * A test for each sentence of the document that names an edge: the sentence, and calls on a new
 * object. Besides what is due it is looked at that a refused call and a question change nothing.
 */
public final class BoundariesTest {
    private static final List<String> QUESTIONS =
        List.of("wagonOf", "placeOf", "days", "would", "lacks", "bestTrain", "share", "count", "fault");
    private static final int LEAST = Integer.MIN_VALUE;
    private static final int MOST = Integer.MAX_VALUE;

    /** The wagon 0 loaded and the wagon 1 empty at the port, on the day 3; both have a wear of 2. */
    private static final String AT_PORT = "mine(60) wagon(1) wagon(1) pass(1) load(0) train(1,0,2,8)=3 pass(2)=2 ";
    /** Twenty wagons of the mine 1, empty at the port, on the day 2. */
    private static final String ALL_AT_PORT = "mine(0) 20*wagon(1) 3*train(1,0,0,8) pass(2)=20 ";
    /** A wagon of the mine 1 that stands loaded at the mine 2, on the day 2. */
    private static final String LOADED_ABROAD = "mine(0) mine(60) wagon(1) train(1,2,0,1) pass(2)=1 load(0)=90 ";
    /** The wagons 0 and 2 at the mine 1, 1 and 3 at the mine 2, 0 and 3 of them loaded, on the day 1. */
    private static final String TWO_MINES = "mine(90) mine(90) wagon(1) wagon(2) wagon(1) wagon(2) pass(1) load(0) load(3) ";
    private static final String ON_1980 = "20*pass(99)=0 count(2)=1980 ";

    private static Document document;

    public static void main(String[] args) throws IOException {
        document = new Document();
        terms();
        wagons();
        whyNotLoaded();
        shop();
        trains();
        daysThatPass();
        accounts();
        settings();
        texts();
        faults();
        changes();
        errors();
        constants();
        promisesOfPlaces();
        promisesOfWork();
        promiseOfTrains();
        promisesOfDaysAndSettings();
        promiseOfWagonOf();
        promiseOfPlaceOf();
        promisesOfWhatWouldBe();
        promisesOfBestTrainAndShare();
        promiseOfCount();
        promisesOfTexts();
        document.allQuoted("All numbers are whole numbers", "Places, legs", "Ahead of the calls");
        Calls.end();
    }

    private static void edge(String section, String quote, String words) {
        document.quote(section, quote);
        Calls.run(words);
        List<String> calls = Calls.split(words);
        for (int k = 0; k < calls.size(); k++) {
            if (!Calls.isTyped(calls.get(k))) {
                lookForTraces(calls.subList(0, k), calls.get(k));
            }
        }
    }

    /** On objects of their own, so that none is asked more than it has to answer. */
    private static void lookForTraces(List<String> before, String call) {
        CoalWagons without = play(before);
        CoalWagons with = play(before);
        boolean refused = Calls.doWord(with, call) <= CoalWagons.INVALID_ARGUMENT;
        if (refused || QUESTIONS.contains(call.substring(0, call.indexOf('(')))) {
            boolean same = tellAllWithHistory(with).equals(tellAllWithHistory(without));
            Calls.due(String.join(" ", before) + " " + call + " changes nothing", same ? 1 : 0, 1);
        }
    }

    private static CoalWagons play(List<String> words) {
        CoalWagons x = new CoalWagons();
        for (String word : words) {
            Calls.doWord(x, word);
        }
        return x;
    }

    private static String tellAllWithHistory(CoalWagons x) {
        StringBuilder all = new StringBuilder(Calls.tellAll(x));
        for (int k = x.count(13); k >= 0; k--) {
            all.append(x.undo()).append(' ');
            for (int what = 0; what <= 14; what++) {
                all.append(x.count(what)).append(' ');
            }
            for (int place = 0; place <= 4; place++) {
                all.append(x.placeOf(place, 6)).append(' ');
            }
        }
        return all.toString();
    }

    /** A call with arguments, of which one, told as "?", is drawn from far outside: each time it must be refused. */
    private static String farOff(String call) {
        StringBuilder words = new StringBuilder();
        for (int value : new int[] {LEAST, MOST, LEAST + 1, MOST - 1, -1, 1 << 16, CoalWagons.NOT_FOUND}) {
            words.append(call.replace("?", Integer.toString(value))).append("=I ");
        }
        return words.toString();
    }

    // ---- the terms

    private static void terms() {
        String s = "Terms";
        edge(s, "Days are counted from 0.", "count(2)=0 pass(1)=0 count(2)=1");
        edge(s, "bit k is for the wagon k", "mine(0) 20*wagon(1) placeOf(1,2)=1048575 placeOf(1,5)=1048575 train(1,0,0,1)=1"
            + " train(1,0,0,8)=510 train(1,0,0,8)=130560 train(1,0,0,8)=917504 placeOf(1,2)=0 placeOf(0,4)=1048575"
            + " pass(2)=20 placeOf(0,2)=1048575");
        edge(s, "The place 0 is the port", "placeOf(0,6)=0 placeOf(0,9)=0 would(0,0)=0 placeOf(1,6)=I placeOf(-1,6)=I");
        edge(s, "there are at most 4 mines", "mine(1)=1 mine(2)=2 mine(3)=3 mine(4)=4 mine(5)=L count(0)=4 undo()=3 mine(6)=4"
            + " mine(7)=L placeOf(4,1)=6");
        edge(s, "the places 1 to 4, in the order in which they came", "mine(40)=1 mine(0)=2 mine(90)=3 mine(7)=4 placeOf(1,1)=40"
            + " placeOf(2,1)=0 placeOf(3,1)=90 placeOf(4,1)=7 placeOf(5,1)=I");
        edge(s, "Between two unlike places there is a leg", "4*mine(0) days(0,0)=I days(1,1)=I days(4,4)=I days(0,4)=2 days(4,0)=2"
            + " days(3,4)=2 leg(4,4,1)=I leg(0,0,1)=I");
        edge(s, "the same both ways", "4*mine(0) leg(0,4,9)=2 days(4,0)=9 leg(4,0,1)=9 days(0,4)=1 leg(4,3,5)=2 days(3,4)=5"
            + " days(0,3)=2 days(3,0)=2");
        edge(s, "(1 to 9; 2 at first)", "4*mine(0) days(0,1)=2 days(0,2)=2 days(0,3)=2 days(0,4)=2 days(1,2)=2 days(1,3)=2"
            + " days(1,4)=2 days(2,3)=2 days(2,4)=2 days(3,4)=2 leg(0,1,0)=I leg(0,1,10)=I leg(0,1,1)=2 leg(0,1,9)=1"
            + " days(1,0)=9");
        edge(s, "(0 to 999 tonnes; 0 at first)", "mine(37) placeOf(1,0)=0 pass(1) placeOf(1,0)=37 pass(25) placeOf(1,0)=962"
            + " pass(1) placeOf(1,0)=999 pass(1) placeOf(1,0)=999");
        edge(s, "grows by its rate (0 to 90) each day", "mine(0) mine(1) mine(90) mine(89) pass(1) placeOf(1,0)=0 placeOf(2,0)=1"
            + " placeOf(3,0)=90 placeOf(4,0)=89 pass(10) placeOf(1,0)=0 placeOf(2,0)=11 placeOf(3,0)=990 placeOf(4,0)=979");
        edge(s, "but not above 999", "mine(90) 4*wagon(1) pass(11) placeOf(1,0)=990 pass(1) placeOf(1,0)=999 load(0)=969 pass(1)"
            + " placeOf(1,0)=999 load(1)=969 load(2)=939 load(3)=909 pass(1) placeOf(1,0)=999 pass(99) placeOf(1,0)=999");
        edge(s, "but not above 999", "mine(1) 10*pass(99) pass(8) placeOf(1,0)=998 pass(1) placeOf(1,0)=999 pass(1) placeOf(1,0)=999");
    }

    private static void wagons() {
        String s = "Wagons";
        edge(s, "at most 20 wagons", "mine(0) mine(0) 10*wagon(1) 10*wagon(2) wagon(1)=L wagon(2)=L count(1)=20 undo()=3 wagon(1)=19"
            + " wagon(1)=L");
        edge(s, "numbered from 0 in the order in which they came", "mine(0) mine(0) wagon(2)=0 wagon(1)=1 wagon(2)=2 wagonOf(0,0)=2"
            + " wagonOf(1,0)=1 wagonOf(2,0)=2 wagonOf(3,0)=I");
        edge(s, "each owned by a mine, and empty at first, at that mine", "mine(90) mine(90) pass(9) wagon(2)=0 wagonOf(0,0)=2"
            + " wagonOf(0,1)=2 wagonOf(0,2)=0 wagonOf(0,3)=0 placeOf(2,2)=1 placeOf(2,3)=0 placeOf(1,2)=0");
        edge(s, "empty or loaded (with 30 tonnes)", "mine(30) wagon(1) pass(1) count(8)=30 load(0)=0 count(8)=30 train(1,0,1,1)=1"
            + " count(8)=30 pass(2) count(8)=90 unload(0)=60 count(8)=60");
        edge(s, "or in repair (at the port)", AT_PORT + "repair(1)=0 wagonOf(1,1)=0 wagonOf(1,3)=2 wagonOf(0,3)=0 placeOf(0,2)=0"
            + " train(1,0,0,1)=N");
        edge(s, "It has wear (0 at first)", "mine(0) wagon(1) wagonOf(0,4)=0 pass(99) wagonOf(0,4)=0 set(3,1) count(12)=0");
        edge(s, "it is due if its wear is at least setting 3", "mine(60) wagon(1) train(1,0,0,1) pass(2) train(0,1,0,1) pass(2)"
            + " wagonOf(0,4)=4 set(3,5) count(12)=0 wagonOf(0,7)=0 set(3,4) count(12)=1 wagonOf(0,7)=5 set(3,3) count(12)=1"
            + " set(3,1) wagonOf(0,7)=5 set(3,99) count(12)=0 load(0)=210");
        edge(s, "it is due if its wear is at least setting 3", "mine(60) wagon(1) set(3,99) leg(0,1,9) "
            + "train(1,0,0,1) pass(9) train(0,1,0,1) pass(9) ".repeat(5) + "leg(0,1,8) train(1,0,0,1) pass(8) wagonOf(0,4)=98"
            + " count(12)=0 leg(0,1,1) train(0,1,0,1) pass(1) wagonOf(0,4)=99 count(12)=1 wagonOf(0,7)=5");
        edge(s, "since it came there", "mine(60) wagon(1) pass(5) wagonOf(0,5)=5 train(1,0,0,1)=1 wagonOf(0,5)=F pass(2)=1"
            + " wagonOf(0,5)=0 pass(1) wagonOf(0,5)=1");
        edge(s, "was loaded", "mine(60) wagon(1) wagon(1) pass(5) load(0)=270 wagonOf(0,5)=0 wagonOf(1,5)=5 load(0)=N pass(1)"
            + " wagonOf(0,5)=1 load(0)=N wagonOf(0,5)=1");
        edge(s, "unloaded or repaired", AT_PORT + "pass(3) wagonOf(0,5)=3 wagonOf(1,5)=3 unload(0)=60 wagonOf(0,5)=0"
            + " wagonOf(1,5)=3 repair(1)=0 pass(3) wagonOf(0,5)=3 wagonOf(1,5)=0 pass(1) wagonOf(0,5)=4 wagonOf(1,5)=1");
        edge(s, "When it is loaded, the heap has 30 tonnes less.", "mine(90) 34*wagon(1) pass(12) load(0)=969 load(1)=939 undo()=3"
            + " placeOf(1,0)=969 load(1)=939 undo()=3 undo()=2 placeOf(1,0)=999");
        edge(s, "its owner's account gets 30 times setting 4", AT_PORT + "set(4,0) unload(0)=0 undo()=3 set(4,99) unload(0)=2970"
            + " undo()=3 set(4,1) unload(0)=30 placeOf(0,6)=-30");
        edge(s, "its owner's account gets 30 times setting 4", LOADED_ABROAD + "train(2,0,1,1) pass(2) set(2,0) unload(0)=64"
            + " placeOf(1,6)=64 placeOf(2,6)=-4 placeOf(0,6)=-60");
    }

    private static void whyNotLoaded() {
        String s = "Wagons";
        String quote = "Why a wagon cannot be loaded is the first of these that is so: ";
        edge(s, quote + "1 it is on its way; 2 it is in repair; 3 it is loaded", "mine(60) wagon(1) pass(1) load(0) set(3,1)"
            + " train(1,0,1,1) wagonOf(0,7)=1 pass(2) train(0,1,1,1) wagonOf(0,7)=1 pass(1) wagonOf(0,7)=1 load(0)=N");
        edge(s, "2 it is in repair; 3 it is loaded; 4 it is at the port", AT_PORT + "set(3,1) wagonOf(1,7)=4 repair(1)=0"
            + " wagonOf(1,7)=2 load(1)=N pass(3) wagonOf(1,7)=4 load(1)=N");
        edge(s, "2 it is in repair;", ALL_AT_PORT + "repair(0)=0 repair(1)=1 repair(2)=2 wagonOf(2,7)=2 load(2)=N");
        edge(s, "3 it is loaded; 4 it is at the port; 5 it is due", AT_PORT + "wagonOf(0,7)=3 set(3,1) wagonOf(0,7)=3 load(0)=N");
        edge(s, "3 it is loaded; 4 it is at the port; 5 it is due; 6 the heap", "mine(30) wagon(1) pass(1) load(0)=0 wagonOf(0,7)=3"
            + " pass(1) wagonOf(0,7)=3 load(0)=N");
        edge(s, "4 it is at the port; 5 it is due", AT_PORT + "wagonOf(1,7)=4 set(3,1) wagonOf(1,7)=4 set(3,99) wagonOf(1,7)=4"
            + " load(1)=N");
        edge(s, "5 it is due; 6 the heap has less than 30 tonnes", "mine(0) wagon(1) set(3,2) train(1,0,0,1) pass(2) train(0,1,0,1)"
            + " pass(2) wagonOf(0,7)=5 load(0)=N set(3,4) wagonOf(0,7)=5 set(3,5) wagonOf(0,7)=6 load(0)=N");
        edge(s, "6 the heap has less than 30 tonnes; otherwise 0", "mine(29) mine(30) mine(31) mine(0) wagon(1) wagon(2) wagon(3)"
            + " wagon(4) pass(1) wagonOf(0,7)=6 wagonOf(1,7)=0 wagonOf(2,7)=0 wagonOf(3,7)=6 load(0)=N load(1)=0 load(2)=1"
            + " load(3)=N");
        edge(s, "6 the heap has less than 30 tonnes; otherwise 0", LOADED_ABROAD.replace("load(0)=90 ", "") + "wagonOf(0,7)=0"
            + " train(2,1,0,1) pass(2) wagonOf(0,7)=6");
        edge(s, "can be unloaded", LOADED_ABROAD + "unload(0)=N train(2,0,1,1) unload(0)=N pass(1) unload(0)=N pass(1)"
            + " unload(0)=64 unload(0)=N");
    }

    private static void shop() {
        String s = "Wagons";
        edge(s, "its owner's account pays setting 5", AT_PORT + "set(5,0) repair(1)=0 placeOf(1,6)=0 undo()=3 set(5,99) repair(1)=0"
            + " placeOf(1,6)=-99 placeOf(0,6)=99");
        edge(s, "its owner's account pays setting 5", "mine(0) mine(0) wagon(2) train(2,0,0,1) pass(2) repair(0)=0 placeOf(2,6)=-25"
            + " placeOf(1,6)=0 pass(9) placeOf(2,6)=-25");
        edge(s, "the shop repairs at most two wagons at a time", ALL_AT_PORT + "repair(0)=0 wagonOf(0,6)=3 repair(1)=1 wagonOf(1,6)=3"
            + " repair(2)=2 wagonOf(2,6)=F pass(3) count(9)=2 wagonOf(2,6)=3");
        edge(s, "each for setting 6 days", ALL_AT_PORT + "set(6,1) repair(0)=0 wagonOf(0,6)=1 set(6,30) repair(1)=1 wagonOf(1,6)=30"
            + " pass(1) wagonOf(0,3)=0 wagonOf(1,6)=29 pass(28) wagonOf(1,6)=1 wagonOf(1,3)=2 pass(1) wagonOf(1,3)=0 count(9)=2");
        edge(s, "those first that came first", ALL_AT_PORT + "repair(19)=0 repair(0)=1 repair(7)=2 repair(3)=3 repair(5)=4 pass(3)"
            + " wagonOf(19,3)=0 wagonOf(0,3)=0 wagonOf(7,6)=3 wagonOf(3,6)=3 wagonOf(5,6)=F wagonOf(5,3)=2 repair(19)=3"
            + " pass(3) wagonOf(5,6)=3 wagonOf(19,6)=3 count(6)=2");
        edge(s, "a wagon that waits for a place is in repair, too", ALL_AT_PORT + "repair(0) repair(1) repair(2)=2 count(6)=3"
            + " wagonOf(2,3)=2 wagonOf(2,7)=2 wagonOf(2,5)=F repair(2)=N placeOf(0,2)=1048568 count(3)=17 undo()=3 train(0,1,0,8)=1020");
        edge(s, "when it is repaired, it stands at the port with no wear", AT_PORT + "repair(1)=0 pass(2) wagonOf(1,4)=2 wagonOf(1,3)=2"
            + " pass(1) wagonOf(1,4)=0 wagonOf(1,3)=0 wagonOf(1,1)=0 placeOf(0,2)=2 set(3,1) count(12)=1 train(0,1,0,1)=2");
        edge(s, "A wagon that is empty and stands at the port can go to repair", AT_PORT + "repair(0)=N repair(1)=0 repair(1)=N"
            + " unload(0)=35 repair(0)=1 pass(3) repair(1)=0 train(0,1,0,8)=1 repair(0)=N pass(2) repair(0)=N");
        edge(s, "A wagon that is empty and stands at the port can go to repair", "mine(0) wagon(1) train(1,0,0,1) pass(2) wagonOf(0,4)=2"
            + " repair(0)=0 pass(3) wagonOf(0,4)=0 repair(0)=0 placeOf(1,6)=-50");
    }

    private static void trains() {
        String s = "Wagons";
        String mixed = "mine(90) 6*wagon(1) pass(1) load(1) load(3) load(4) ";
        edge(s, "empty ones, loaded ones, or both", mixed + "train(1,0,0,8)=37 undo()=3 train(1,0,1,8)=26 undo()=3 train(1,0,2,8)=63"
            + " train(1,0,0,8)=N train(1,0,1,8)=N train(1,0,2,8)=N");
        edge(s, "(the lowest ones first)", mixed + "train(1,0,0,2)=5 undo()=3 train(1,0,1,2)=10 undo()=3 train(1,0,2,3)=7"
            + " train(1,0,2,1)=8 train(1,0,0,8)=32 train(1,0,1,8)=16");
        edge(s, "1 to 8;", "mine(0) 10*wagon(1) train(1,0,0,0)=I train(1,0,0,9)=I train(1,0,0,8)=255 train(1,0,0,1)=256"
            + " train(1,0,0,8)=512 train(1,0,0,1)=N");
        edge(s, "they come as many days later as the leg takes", "mine(0) wagon(1) wagon(1) leg(0,1,1) train(1,0,0,1)=1 wagonOf(0,6)=1"
            + " leg(0,1,9) train(1,0,0,1)=2 wagonOf(1,6)=9 pass(1)=1 wagonOf(0,3)=0 pass(7)=0 wagonOf(1,6)=1 wagonOf(1,3)=1 pass(1)=1"
            + " wagonOf(1,3)=0");
        edge(s, "then their wear is greater by these days", "mine(0) wagon(1) leg(0,1,9) train(1,0,0,1) pass(8) wagonOf(0,4)=0 pass(1)"
            + " wagonOf(0,4)=9 pass(9) wagonOf(0,4)=9 leg(0,1,1) train(0,1,0,1) wagonOf(0,4)=9 leg(0,1,5) pass(1) wagonOf(0,4)=10");
    }

    private static void daysThatPass() {
        String s = "Days";
        edge(s, "When a day passes, the day becomes 1 more", "pass(1) count(2)=1 pass(99) count(2)=100");
        edge(s, "(1) all heaps grow", "mine(1) mine(2) mine(3) mine(4) pass(1) placeOf(1,0)=1 placeOf(2,0)=2 placeOf(3,0)=3"
            + " placeOf(4,0)=4 count(8)=10 placeOf(0,0)=F");
        edge(s, "(2) trains that come arrive", "mine(0) mine(0) wagon(1) wagon(1) wagon(1) leg(1,2,3) leg(1,0,1) train(1,2,0,1)=1"
            + " pass(2)=0 train(1,0,0,2)=6 pass(1)=3 placeOf(2,2)=1 placeOf(0,2)=6");
        edge(s, "waiting wagons begin, those that came first", ALL_AT_PORT + "repair(5) repair(4) repair(3) repair(2) repair(1) set(6,9)"
            + " pass(3) wagonOf(3,6)=9 wagonOf(2,6)=9 wagonOf(1,6)=F pass(8) wagonOf(1,6)=F pass(1) wagonOf(1,6)=9 count(9)=4");
        edge(s, "(by the setting when it begins)", ALL_AT_PORT + "repair(0) set(6,30) repair(1) set(6,1) repair(2) wagonOf(0,6)=3"
            + " wagonOf(1,6)=30 pass(2) set(6,7) wagonOf(0,6)=1 wagonOf(1,6)=28 pass(1) wagonOf(0,3)=0 wagonOf(2,6)=7 set(6,2)"
            + " wagonOf(2,6)=7 pass(7) wagonOf(2,3)=0 wagonOf(1,6)=20 repair(2)=1 wagonOf(2,6)=2");
        edge(s, "a repair is over setting 6 days", ALL_AT_PORT + "set(6,1) repair(0) repair(1) repair(2) repair(3) repair(4) pass(1)"
            + " count(9)=2 wagonOf(2,6)=1 wagonOf(3,6)=1 wagonOf(4,6)=F pass(1) count(9)=4 wagonOf(4,6)=1 pass(1) count(9)=5 count(6)=0");
        edge(s, "and did not arrive or end its repair this day", AT_PORT + "wagonOf(0,5)=0 wagonOf(1,5)=0 repair(1) pass(3) wagonOf(0,5)=3"
            + " wagonOf(1,5)=0 pass(1) wagonOf(0,5)=4 wagonOf(1,5)=1");
        edge(s, "with a standing above setting 0, its owner's account pays setting 1", AT_PORT + "pass(3) wagonOf(0,5)=3 placeOf(1,6)=0"
            + " pass(1) wagonOf(0,5)=4 placeOf(1,6)=-10 placeOf(0,6)=10 pass(1) placeOf(1,6)=-20");
        edge(s, "with a standing above setting 0, its owner's account pays setting 1", AT_PORT + "set(0,0) placeOf(1,6)=0 pass(1)"
            + " placeOf(1,6)=-10 undo()=3 set(0,1) pass(1) placeOf(1,6)=0 pass(1) placeOf(1,6)=-10");
        edge(s, "with a standing above setting 0, its owner's account pays setting 1", AT_PORT + "set(0,30) pass(30) wagonOf(0,5)=30"
            + " placeOf(1,6)=0 pass(1) placeOf(1,6)=-10");
        edge(s, "with a standing above setting 0, its owner's account pays setting 1", AT_PORT.replace("pass(2)=2", "set(0,0) pass(2)=2")
            + "placeOf(1,7)=0 set(1,0) pass(5) placeOf(1,7)=0 set(1,99) pass(1) placeOf(1,7)=99 placeOf(1,6)=-99");
        edge(s, "for each loaded wagon that stands at the port", "mine(90) mine(0) wagon(1) wagon(1) wagon(1) wagon(2) pass(1) load(0)"
            + " load(1) set(0,0) pass(9) placeOf(1,7)=0 train(1,0,2,8)=7 train(2,0,0,8)=8 pass(2) placeOf(0,7)=0 pass(1) placeOf(1,7)=20"
            + " placeOf(0,7)=20 placeOf(2,7)=0 unload(0) pass(1) placeOf(1,7)=30 train(0,1,1,1)=2 pass(9) placeOf(1,7)=30");
        edge(s, "for each loaded wagon that stands at the port", "mine(90) 20*wagon(1) pass(8) " + loads(0, 19) + "3*train(1,0,1,8) pass(2)=20 pass(3)"
            + " placeOf(1,7)=0 pass(1) placeOf(1,7)=200 placeOf(0,7)=200 unload(0) unload(19) pass(1) placeOf(1,7)=380");
        edge(s, "for each wagon that stands at a mine that does not own it", "mine(0) mine(0) 20*wagon(1) 3*train(1,2,0,8) pass(2)=20 placeOf(2,8)=-80"
            + " placeOf(1,8)=80 train(2,0,0,1) pass(1) placeOf(2,8)=-156 placeOf(1,8)=156");
        edge(s, "for each wagon that stands at a mine that does not own it", "mine(0) mine(0) mine(0) wagon(1) wagon(2) wagon(3)"
            + " train(1,2,0,1) train(2,0,0,1)=2 pass(2) placeOf(2,8)=-4 pass(1) placeOf(2,8)=-8 placeOf(1,8)=8 placeOf(3,8)=0"
            + " train(2,1,0,1)=1 pass(9) placeOf(2,8)=-8 placeOf(1,8)=8 repair(1) pass(9) count(7)=0 placeOf(2,8)=-8");
        edge(s, "(also on the day on which it came)", "mine(0) mine(0) wagon(1) leg(1,2,1) train(1,2,0,1) placeOf(2,6)=0 pass(1)=1"
            + " placeOf(2,6)=-4 placeOf(1,6)=4 train(2,1,0,1) pass(1)=1 placeOf(2,6)=-4");
        edge(s, "that mine's account pays setting 2 to the owner's", LOADED_ABROAD + "placeOf(2,6)=-4 set(2,0) pass(9) placeOf(2,6)=-4"
            + " set(2,99) pass(1) placeOf(2,6)=-103 placeOf(1,6)=103 placeOf(0,6)=0");
    }

    private static void accounts() {
        String s = "Accounts";
        edge(s, "(0 at first, it can be below 0)", "mine(0) mine(0) placeOf(1,6)=0 placeOf(2,6)=0 wagon(1) train(1,2,0,1) pass(2)"
            + " placeOf(2,6)=-4 placeOf(1,6)=4 pass(99) placeOf(2,6)=-400 train(2,0,0,1) pass(2) set(5,99) repair(0)"
            + " placeOf(1,6)=301 placeOf(0,6)=99");
        edge(s, "the pool has one, that pays for unloading", AT_PORT + "placeOf(0,6)=0 unload(0)=60 placeOf(0,6)=-60");
        edge(s, "gets what is paid for demurrage and repairs", AT_PORT + "repair(1) placeOf(0,6)=25 pass(3) placeOf(0,6)=25 pass(1)"
            + " placeOf(0,6)=35 placeOf(0,7)=10 placeOf(1,7)=10 placeOf(1,6)=-35");
        edge(s, "All accounts together are 0 at all times.", "count(7)=0 mine(60) mine(0) wagon(1) wagon(2) wagon(1) pass(1) load(0)"
            + " load(2) train(1,0,1,1) train(1,2,1,1)=4 pass(2) count(7)=0 repair(0)=N unload(0) count(7)=0 repair(0)=0 count(7)=0"
            + " train(2,0,1,1)=4 pass(20) count(7)=0 placeOf(1,7)=150 undo()=3 count(7)=0");
    }

    private static void settings() {
        setting("0 free days (0 to 30; 3)", 0, 0, 30, 3);
        setting("1 demurrage (0 to 99; 10)", 1, 0, 99, 10);
        setting("2 hire (0 to 99; 4)", 2, 0, 99, 4);
        setting("3 wear (1 to 99; 20)", 3, 1, 99, 20);
        setting("4 price (0 to 99; 2)", 4, 0, 99, 2);
        setting("5 cost of a repair (0 to 99; 25)", 5, 0, 99, 25);
        setting("6 days of a repair (1 to 30; 3)", 6, 1, 30, 3);
    }

    private static void setting(String quote, int what, int lowest, int highest, int first) {
        String set = "set(" + what + ",";
        String is = " count(" + (20 + what) + ")=";
        edge("Settings", quote, is + first + " " + set + (lowest - 1) + ")=I " + set + (highest + 1) + ")=I" + is + first + " " + set
            + lowest + ")=" + first + is + lowest + " " + set + highest + ")=" + lowest + is + highest + " undo()=1" + is + lowest
            + " undo()=0" + is + first);
        edge("Settings", quote, farOff(set + "?)") + is + first);
    }

    private static void texts() {
        String s = "Texts";
        edge(s, "There is a text of at most 60 characters, initially empty", "count(14)=0 fault(0)=F 59*type(65) type(126)=60 type(65)=L"
            + " count(14)=60 clearText()=60 type(65)=1");
        edge(s, "\"w\" a mine (a wagon comes)", "mine(0) mine(0) \"w2;w1;\" play()=2 count(1)=2 wagonOf(0,0)=2 wagonOf(1,0)=1"
            + " clearText() \"w0;\" fault(2)=I clearText() \"w3;\" fault(2)=I");
        edge(s, "\"l\" a wagon (loaded)", "mine(30) wagon(1) \"l0;\" fault(2)=N pass(1) play()=1 wagonOf(0,2)=1 wagonOf(0,8)=1"
            + " placeOf(1,0)=0 placeOf(1,9)=30");
        edge(s, "\"u\" a wagon (unloaded)", AT_PORT + "\"u0;\" play()=1 placeOf(1,6)=60 wagonOf(0,2)=0 fault(2)=N");
        edge(s, "\"r\" a wagon (to repair)", AT_PORT + "\"r1;\" play()=1 wagonOf(1,3)=2 placeOf(1,6)=-25 fault(2)=N");
        edge(s, "\"t\" a place, \",\", a place, \",\", a kind, \",\", how many (a train)", "mine(0) 10*wagon(1) \"t1,0,0,8;t01,00,02,01;\""
            + " play()=2 placeOf(0,4)=511 placeOf(1,2)=512 count(10)=2 count(11)=2");
        edge(s, "\"d\" days (they pass)", "\"d1;d99;\" play()=2 count(2)=100 clearText() \"d0;\" fault(2)=I clearText() \"d00;\""
            + " fault(1)=2 fault(2)=I");
        edge(s, "numbers of 1 or 2 digits, 0 ahead allowed", "mine(0) \"w1;w01;l09;\" fault(0)=7 fault(2)=I clearText() \"w001;\""
            + " fault(1)=1 fault(2)=3 clearText() \"w;\" fault(1)=1 fault(2)=1 clearText() \"w00;\" fault(1)=2 fault(2)=I clearText()"
            + " \"w99;\" fault(1)=2 fault(2)=I");
        edge(s, "each followed by \";\"", "mine(0) \"w1\" fault(1)=1 fault(2)=2 play()=N \";\" fault(1)=F play()=1 \";\" fault(0)=3"
            + " fault(1)=1 fault(2)=0 play()=N");
        edge(s, "There is a text of at most 60 characters", "\"d1;d1;d1;d1;d1;d1;d1;d1;d1;d1;d1;d1;d1;d1;d1;d1;d1;d1;d1;d1;\" count(14)=60"
            + " fault(0)=F play()=20 count(2)=20 count(13)=1 count(14)=60 undo()=0 count(2)=0");
    }

    private static void faults() {
        String s = "Texts";
        String position = "The fault of the text is the position, from 0, of the first character of the first order that is not possible";
        edge(s, position, "mine(0) \"x\" fault(0)=0 clearText() \"w1;x\" fault(0)=3 clearText() \"w01;w1;w2;w3;x\" fault(0)=7 fault(1)=2");
        edge(s, position, "19*\"d1;\" \"d1\" fault(0)=57 fault(1)=1 fault(2)=2 type(120)=60 fault(0)=57 fault(2)=2 type(59)=L");
        edge(s, position, "59*type(32) type(32)=60 fault(0)=0 fault(1)=1 fault(2)=0");
        String reason = "its reason is 1 if it is not of this form, its \";\" included, and otherwise 2";
        edge(s, reason, "mine(0) \"l0\" fault(1)=1 \";\" fault(1)=2 clearText() \"t9,9,9,9\" fault(1)=1 fault(2)=8 \";\" fault(1)=2");
        edge(s, reason, "mine(0) \"w2;w\" fault(0)=0 fault(1)=2 clearText() \"w;w2;\" fault(0)=0 fault(1)=1");
        edge(s, "when those ahead of it are done", "mine(30) \"w1;l0;\" fault(0)=3 fault(2)=N clearText() \"w1;d1;l0;l0;\" fault(0)=9"
            + " fault(1)=2 fault(2)=N clearText() \"w1;d1;l0;t1,0,1,1;u0;\" fault(0)=18 clearText() \"w1;d1;l0;t1,0,1,1;d2;u0;u0;\""
            + " fault(0)=24 fault(2)=N play()=N count(1)=0");
        String cause = "with the reason 1 at which character of the order, from 0, it breaks off (of one that the text ends too early it is "
            + "its length)";
        edge(s, cause, brokenOff("x", 0) + brokenOff(";", 0) + brokenOff("W1;", 0) + brokenOff("_w1;", 0) + brokenOff("1;", 0));
        edge(s, cause, brokenOff("w", 1) + brokenOff("w;", 1) + brokenOff("w-1;", 1) + brokenOff("ww1;", 1) + brokenOff("w_1;", 1));
        edge(s, cause, brokenOff("l1", 2) + brokenOff("l1,", 2) + brokenOff("l1_;", 2) + brokenOff("u12", 3) + brokenOff("u123;", 3));
        edge(s, cause, brokenOff("r/;", 1) + brokenOff("r:;", 1) + brokenOff("d1/;", 2) + brokenOff("d1:", 2) + brokenOff("d12:", 3));
        edge(s, cause, brokenOff("t", 1) + brokenOff("t,", 1) + brokenOff("t1", 2) + brokenOff("t1;", 2) + brokenOff("t12", 3));
        edge(s, cause, brokenOff("t1,", 3) + brokenOff("t1,;", 3) + brokenOff("t1,,", 3) + brokenOff("t123,", 3) + brokenOff("t1,0", 4));
        edge(s, cause, brokenOff("t1,0;", 4) + brokenOff("t1,0,", 5) + brokenOff("t1,0,0;", 6) + brokenOff("t1,0,0,", 7));
        edge(s, cause, brokenOff("t1,0,0,;", 7) + brokenOff("t1,0,0,1", 8) + brokenOff("t1,0,0,1,", 8) + brokenOff("t1,0,0,123;", 9));
        edge(s, cause, brokenOff("t12,34,56,78", 12) + brokenOff("t12,34,56,78,", 12) + brokenOff("t12,34,56,789;", 12));
        String code = "with the reason 2 the error code that the call returns for it";
        edge(s, code, "\"w1;\" fault(1)=2 fault(2)=I mine(0) fault(2)=F 20*wagon(1) fault(1)=2 fault(2)=L");
        edge(s, code, "20*pass(99) \"d19;d1;\" fault(0)=4 fault(2)=L play()=N clearText() \"d20;\" fault(0)=0 fault(2)=L clearText()"
            + " \"d19;\" fault(2)=F play()=1 count(2)=1999 fault(2)=L");
        edge(s, code, "mine(0) wagon(1) \"u0;\" fault(2)=N clearText() \"r0;\" fault(2)=N clearText() \"l0;\" fault(2)=N clearText()"
            + " \"t1,0,1,1;\" fault(2)=N clearText() \"t1,1,0,1;\" fault(2)=I clearText() \"t1,0,3,1;\" fault(2)=I clearText()"
            + " \"t1,0,0,9;\" fault(2)=I clearText() \"t1,0,0,0;\" fault(2)=I clearText() \"t1,2,0,1;\" fault(2)=I clearText()"
            + " \"u1;\" fault(2)=I clearText() \"r1;\" fault(2)=I");
    }

    /** Where an order breaks off, alone and behind two that are of the form and possible. */
    private static String brokenOff(String order, int cause) {
        return "\"" + order + "\" fault(0)=0 fault(1)=1 fault(2)=" + cause + " clearText() \"d1;d02;" + order
            + "\" fault(0)=7 fault(1)=1 fault(2)=" + cause + " play()=N clearText() ";
    }

    // ---- changes and errors

    private static void changes() {
        String s = "Changes and errors";
        String are = "The changes are the calls of mine, leg, wagon, load, unload, repair, train, pass, set and play that return no error.";
        edge(s, are, "mine(60) count(13)=1 leg(0,1,2) count(13)=2 wagon(1) count(13)=3 pass(1) count(13)=4");
        edge(s, are, "mine(60) wagon(1) pass(1) undo()=2 undo()=1 wagon(1) pass(1) undo()=2 pass(1) load(0) count(13)=4 undo()=3"
            + " undo()=2 pass(1) undo()=2 undo()=1 undo()=0");
        edge(s, are, AT_PORT + "undo()=3 undo()=2 undo()=1 undo()=0 set(0,3) count(13)=1 set(0,3) count(13)=2 play()=0 count(13)=3");
        edge(s, are, "mine(60) \"w1;w1;d1;\" play()=3 count(13)=2 load(1)=30 count(13)=3 train(1,0,2,8)=3 count(13)=4 undo()=3 undo()=2"
            + " wagonOf(1,2)=0 placeOf(1,0)=60");
        edge(s, are, "mine(60) \"w1;w1;d1;l0;t1,0,2,8;d2;\" play()=6 count(13)=2 unload(0)=60 count(13)=3 repair(1)=0 count(13)=4 undo()=3"
            + " undo()=2 wagonOf(0,2)=1 placeOf(1,6)=0");
        edge(s, are, "mine(91)=I leg(0,0,1)=I wagon(1)=I load(0)=I unload(0)=I repair(0)=I train(0,1,0,1)=I pass(0)=I set(0,31)=I"
            + " type(119)=1 play()=N count(13)=0 undo()=N");
        edge(s, are, "mine(5) type(120)=1 clearText()=1 fault(0)=F would(0,9)=0 lacks(1)=0 bestTrain(0)=F share(1)=F count(0)=1"
            + " days(0,1)=2 placeOf(0,6)=0 wagonOf(0,0)=I count(13)=1");
        edge(s, "A history of at most 4 states is kept", "pass(1) pass(1) pass(1) pass(1) count(13)=4 pass(1) count(13)=4 undo()=3");
        edge(s, "each change records everything before it but the text", "mine(9) \"w1;\" wagon(1) clearText()=3 \"d1;d2;\" undo()=1"
            + " count(14)=6 count(1)=0 undo()=0 count(14)=6 count(0)=0 play()=2 clearText()=6 undo()=0 count(14)=0");
        edge(s, "if there are 5 states then, the oldest one is dropped", "pass(1) pass(2) pass(4) pass(8) pass(16) count(13)=4 count(2)=31"
            + " undo()=3 count(2)=15 undo()=2 count(2)=7 undo()=1 count(2)=3 undo()=0 count(2)=1 undo()=N count(2)=1");
        edge(s, "if there are 5 states then, the oldest one is dropped", "23*pass(1) undo()=3 undo()=2 count(2)=21 pass(9) pass(9) pass(9)"
            + " count(13)=4 undo()=3 undo()=2 undo()=1 count(2)=21 undo()=0 count(2)=20 undo()=N");
    }

    private static void errors() {
        String s = "Changes and errors";
        String order = "If several errors apply to a call, INVALID_ARGUMENT is returned rather than NOT_POSSIBLE";
        edge(s, order, "mine(60) wagon(1) train(1,1,1,1)=I train(0,1,0,9)=I train(0,1,3,1)=I train(0,2,0,1)=I train(0,1,0,1)=N");
        String limit = "NOT_POSSIBLE rather than LIMIT_REACHED";
        edge(s, limit, "4*mine(0) mine(91)=I mine(-1)=I mine(90)=L");
        edge(s, limit, "mine(0) 20*wagon(1) wagon(0)=I wagon(2)=I wagon(-1)=I wagon(1)=L");
        edge(s, limit, ON_1980 + "pass(19) pass(0)=I pass(100)=I pass(99)=L pass(1)=L");
        edge(s, limit, "60*type(65) type(31)=I type(127)=I type(32)=L type(126)=L");
        String found = "LIMIT_REACHED rather than NOT_FOUND";
        edge(s, found, "mine(0) wagon(1) wagonOf(1,6)=I wagonOf(0,9)=I wagonOf(0,6)=F placeOf(0,10)=I placeOf(2,8)=I placeOf(0,8)=F"
            + " bestTrain(3)=I bestTrain(2)=F fault(3)=I fault(2)=F share(2)=I share(0)=I");
        edge(s, "A call that returns an error changes nothing.", "mine(30) mine(0) wagon(1) wagon(1) pass(1) load(0) train(1,0,2,8)"
            + " pass(2) repair(1) pass(1) \"w1;d1;r1;\" mine(91)=I leg(0,1,10)=I wagon(3)=I load(0)=N unload(1)=N repair(1)=N repair(0)=N"
            + " train(0,1,0,8)=N pass(100)=I set(2,100)=I play()=N type(127)=I count(2)=4 count(13)=4");
        edge(s, "If there is no place or wagon with a certain number, this is INVALID_ARGUMENT", "mine(60) load(0)=I unload(0)=I repair(0)=I"
            + " wagonOf(0,0)=I wagon(1) load(1)=I unload(1)=I repair(1)=I wagonOf(1,0)=I wagon(2)=I leg(0,2,1)=I leg(2,0,1)=I"
            + " train(2,0,0,1)=I train(1,2,0,1)=I placeOf(2,6)=I days(2,0)=I days(1,2)=I would(2,0)=I lacks(2)=I share(2)=I");
        edge(s, "If there is no place or wagon with a certain number, this is INVALID_ARGUMENT", "mine(60) mine(60) wagon(2) undo()=2"
            + " wagonOf(0,0)=I load(0)=I undo()=1 placeOf(2,6)=I wagon(2)=I undo()=0 placeOf(1,6)=I days(0,1)=I");
        edge(s, "so is the place 0 where a mine is asked for", "mine(60) wagon(0)=I lacks(0)=I share(0)=I \"w0;\" fault(2)=I");
    }

    private static void constants() {
        String s = "Changes and errors";
        document.quote(s, "`INVALID_ARGUMENT = -2000000001`");
        document.quote(s, "An argument is out of its range, or there is no such place or wagon.");
        Calls.due("INVALID_ARGUMENT", CoalWagons.INVALID_ARGUMENT, -2000000001);
        document.quote(s, "`NOT_POSSIBLE = -2000000002`: The call is not possible in the present state.");
        Calls.due("NOT_POSSIBLE", CoalWagons.NOT_POSSIBLE, -2000000002);
        document.quote(s, "`LIMIT_REACHED = -2000000003`: A fixed limit has been reached.");
        Calls.due("LIMIT_REACHED", CoalWagons.LIMIT_REACHED, -2000000003);
        document.quote(s, "`NOT_FOUND = -2000000004`: There is no such value.");
        Calls.due("NOT_FOUND", CoalWagons.NOT_FOUND, -2000000004);
    }

    // ---- the promises

    private static void promisesOfPlaces() {
        edge("Promise 1", "Creates a port without mines.", "count(0)=0 count(1)=0 count(2)=0 count(3)=0 count(4)=0 count(5)=0 count(6)=0"
            + " count(7)=0 count(8)=0 count(9)=0 count(10)=0 count(11)=0 count(12)=0 count(13)=0 count(14)=0 placeOf(0,2)=0 placeOf(0,3)=0"
            + " placeOf(0,4)=0 placeOf(0,6)=0 placeOf(0,7)=0 placeOf(0,9)=0 placeOf(1,6)=I wagonOf(0,0)=I undo()=N");

        edge("Promise 2", "Adds a mine.", "mine(7)=1 count(0)=1 placeOf(1,0)=0 placeOf(1,1)=7 placeOf(1,2)=0 placeOf(1,5)=0 placeOf(1,6)=0"
            + " placeOf(1,7)=0 placeOf(1,8)=0 placeOf(1,9)=0");
        edge("Promise 2", "0 to 90: tonnes a day", "mine(0)=1 mine(90)=2 pass(1) placeOf(1,0)=0 placeOf(2,0)=90");
        edge("Promise 2", "Returns its place", "mine(5)=1 mine(5)=2 undo()=1 mine(5)=2 mine(5)=3 mine(5)=4");
        edge("Promise 2", "INVALID_ARGUMENT if rate is out of range", "mine(-1)=I mine(91)=I " + farOff("mine(?)") + "count(0)=0");
        edge("Promise 2", "LIMIT_REACHED if there are 4.", "4*mine(0) 3*mine(0)=L count(0)=4 undo()=3 mine(0)=4 mine(0)=L");

        edge("Promise 3", "(trains on their way come as they were to)", "mine(0) 2*wagon(1) leg(1,0,5) train(1,0,0,1) pass(1) leg(1,0,1)=5"
            + " wagonOf(0,6)=4 train(1,0,0,1)=2 pass(1)=1 wagonOf(1,3)=0 leg(1,0,9) pass(2)=0 wagonOf(0,6)=1 pass(1)=1 wagonOf(0,4)=5");
        edge("Promise 3", "`one`: a place", "4*mine(0) leg(-1,0,1)=I leg(5,0,1)=I leg(4,0,1)=2 leg(0,4,1)=1 " + farOff("leg(?,1,2)"));
        edge("Promise 3", "`other`: another place", "4*mine(0) leg(0,-1,1)=I leg(0,5,1)=I leg(0,4,1)=2 " + farOff("leg(1,?,2)"));
        edge("Promise 3", "`days`: 1 to 9", "mine(0) leg(0,1,0)=I leg(0,1,10)=I leg(0,1,9)=2 leg(0,1,1)=9 " + farOff("leg(0,1,?)"));
        edge("Promise 3", "Returns what it was", "mine(0) leg(0,1,2)=2 leg(0,1,7)=2 leg(1,0,8)=7 undo()=3 leg(1,0,3)=7");
        edge("Promise 3", "or both are the same", "mine(0) leg(0,0,1)=I leg(1,1,1)=I leg(2,2,1)=I count(13)=1");

        edge("Promise 4", "Adds a wagon.", "mine(0) mine(0) pass(7) wagon(2)=0 wagonOf(0,2)=0 wagonOf(0,3)=0 wagonOf(0,4)=0 wagonOf(0,5)=0"
            + " wagonOf(0,6)=F wagonOf(0,8)=0 placeOf(2,2)=1 placeOf(2,5)=1 placeOf(1,5)=0");
        edge("Promise 4", "`mine`: its owner", "mine(0) wagon(0)=I wagon(2)=I wagon(-1)=I wagon(1)=0 mine(0) wagon(2)=1 wagonOf(1,0)=2 "
            + farOff("wagon(?)"));
        edge("Promise 4", "Returns its number", "mine(0) wagon(1)=0 wagon(1)=1 undo()=2 wagon(1)=1 wagon(1)=2");
        edge("Promise 4", "INVALID_ARGUMENT;", "wagon(0)=I wagon(1)=I count(1)=0");
        edge("Promise 4", "LIMIT_REACHED if there are 20.", "mine(0) mine(0) 19*wagon(1) wagon(2)=19 3*wagon(1)=L wagon(2)=L count(1)=20"
            + " undo()=3 wagon(1)=19 wagon(1)=L");
    }

    private static void promisesOfWork() {
        edge("Promise 5", "Loads a wagon.", "mine(30) wagon(1) pass(1) load(0)=0 wagonOf(0,2)=1 wagonOf(0,8)=1 placeOf(1,3)=1 placeOf(1,9)=30");
        edge("Promise 5", "`wagon`: number of the wagon", "mine(90) 2*wagon(1) pass(1) load(-1)=I load(2)=I load(1)=60 " + farOff("load(?)"));
        edge("Promise 5", "Returns the tonnes that the heap has then", "mine(31) 2*wagon(1) pass(2) load(0)=32 load(1)=2");
        edge("Promise 5", "INVALID_ARGUMENT;", "load(0)=I mine(90) pass(1) load(0)=I 20*wagon(1) load(20)=I load(19)=60");
        edge("Promise 5", "NOT_POSSIBLE if it cannot be loaded.", AT_PORT + "load(0)=N load(1)=N train(0,1,2,8) load(0)=N load(1)=N pass(2)"
            + " load(0)=N load(1)=240 load(1)=N");

        edge("Promise 6", "Unloads a wagon.", AT_PORT + "unload(0)=60 wagonOf(0,2)=0 wagonOf(0,1)=0 wagonOf(0,3)=0 placeOf(0,3)=0 placeOf(0,2)=3"
            + " placeOf(0,9)=30 wagonOf(0,8)=1");
        edge("Promise 6", "`wagon`: number of the wagon", AT_PORT + "unload(-1)=I unload(2)=I " + farOff("unload(?)") + "unload(0)=60");
        edge("Promise 6", "Returns its owner's account then", AT_PORT + "pass(13) unload(0)=-40 placeOf(1,6)=-40 placeOf(0,6)=40");
        edge("Promise 6", "INVALID_ARGUMENT;", "unload(0)=I mine(90) unload(0)=I 20*wagon(1) unload(20)=I unload(19)=N");
        edge("Promise 6", "NOT_POSSIBLE if it is not loaded, or does not stand at the port.", AT_PORT + "unload(1)=N unload(0)=60 unload(0)=N"
            + " repair(0)=0 unload(0)=N");
        edge("Promise 6", "or does not stand at the port", "mine(60) wagon(1) unload(0)=N pass(1) load(0) unload(0)=N train(1,0,1,1) unload(0)=N"
            + " pass(1) unload(0)=N pass(1) unload(0)=60");

        edge("Promise 7", "Lets a wagon go to repair.", AT_PORT + "repair(1)=0 count(6)=1 wagonOf(1,3)=2 wagonOf(1,6)=3 placeOf(1,6)=-25"
            + " placeOf(0,6)=25 placeOf(0,2)=0");
        edge("Promise 7", "`wagon`: number of the wagon", AT_PORT + "repair(-1)=I repair(2)=I " + farOff("repair(?)") + "repair(1)=0");
        edge("Promise 7", "Returns how many wagons are in repair ahead of it", ALL_AT_PORT + "repair(19)=0 repair(18)=1 repair(17)=2 repair(16)=3"
            + " pass(3) repair(15)=2 pass(3) repair(14)=1 pass(3) repair(13)=0");
        edge("Promise 7", "Returns how many wagons are in repair ahead of it", ALL_AT_PORT + allInRepair() + "count(6)=20 count(3)=0 repair(0)=N"
            + " set(6,1) pass(3) count(9)=2 pass(8) count(9)=18 wagonOf(18,6)=1 wagonOf(19,6)=1 pass(1) count(9)=20 count(6)=0 count(3)=20");
        edge("Promise 7", "INVALID_ARGUMENT;", "repair(0)=I mine(90) repair(0)=I 20*wagon(1) repair(20)=I repair(19)=N");
        edge("Promise 7", "NOT_POSSIBLE if it is loaded, does not stand at the port, or is in repair.", AT_PORT + "repair(0)=N repair(1)=0"
            + " repair(1)=N pass(2) repair(1)=N pass(1) repair(1)=0 placeOf(1,6)=-50");
        edge("Promise 7", "does not stand at the port", "mine(0) wagon(1) repair(0)=N train(1,0,0,1) repair(0)=N pass(1) repair(0)=N pass(1)"
            + " train(0,1,0,1) repair(0)=N pass(2) repair(0)=N");
    }

    private static String allInRepair() {
        StringBuilder words = new StringBuilder();
        for (int k = 0; k < 20; k++) {
            words.append("repair(").append(k).append(")=").append(k).append(' ');
        }
        return words.toString();
    }

    private static void promiseOfTrains() {
        String s = "Promise 8";
        edge(s, "Sends a train.", "mine(90) 2*wagon(1) pass(1) load(1) train(1,0,0,1)=1 count(10)=1 count(11)=1 wagonOf(0,3)=1 wagonOf(0,1)=0"
            + " wagonOf(0,5)=F wagonOf(0,6)=2 placeOf(0,4)=1 train(1,0,1,1)=2 count(10)=2 count(11)=1 placeOf(0,4)=3 count(5)=2");
        edge(s, "`from`: a place", "mine(0) wagon(1) train(-1,0,0,1)=I train(2,0,0,1)=I " + farOff("train(?,0,0,1)") + "train(1,0,0,1)=1");
        edge(s, "`to`: another place", "mine(0) wagon(1) train(1,-1,0,1)=I train(1,2,0,1)=I train(1,1,0,1)=I " + farOff("train(1,?,0,1)"));
        edge(s, "`kind`: 0: empty wagons", "mine(90) 2*wagon(1) pass(1) load(0) train(1,0,-1,1)=I " + farOff("train(1,0,?,8)") + "train(1,0,0,8)=2"
            + " train(1,0,0,8)=N");
        edge(s, "1: loaded ones", "mine(90) 2*wagon(1) pass(1) load(0) train(1,0,1,8)=1 train(1,0,1,8)=N");
        edge(s, "2: both", "mine(90) 2*wagon(1) pass(1) load(0) train(1,0,3,1)=I train(1,0,2,8)=3 count(11)=0 train(1,0,2,8)=N");
        edge(s, "`many`: 1 to 8: how many at most", "mine(0) 9*wagon(1) train(1,0,0,0)=I train(1,0,0,9)=I " + farOff("train(1,0,0,?)")
            + "train(1,0,0,1)=1 train(1,0,0,7)=254 train(1,0,0,8)=256");
        edge(s, "Returns the wagons that go, as a set", "mine(0) 20*wagon(1) train(1,0,0,8)=255 train(1,0,0,8)=65280 train(1,0,0,8)=983040"
            + " undo()=3 train(1,0,0,3)=458752 train(1,0,0,1)=524288 train(1,0,0,1)=N");
        edge(s, "or both places are the same", "mine(0) wagon(1) train(1,1,0,1)=I train(0,0,0,1)=I train(2,2,0,1)=I count(10)=0");
        edge(s, "NOT_POSSIBLE if there is no such wagon.", "mine(90) mine(0) train(1,0,2,8)=N wagon(1) train(1,0,1,8)=N train(2,0,2,8)=N"
            + " train(0,1,2,8)=N pass(1) load(0) train(1,0,0,8)=N count(10)=0 train(1,0,1,8)=1 train(1,0,2,8)=N train(0,1,2,8)=N pass(2)"
            + " unload(0) repair(0) train(0,1,2,8)=N count(10)=1");
        edge(s, "NOT_POSSIBLE if there is no such wagon.", "train(0,1,0,1)=I train(0,0,0,1)=I mine(0) train(0,1,0,1)=N train(1,0,0,1)=N");
        edge(s, "Sends a train.", "mine(0) wagon(1) set(3,1) train(1,0,0,1) pass(2) count(12)=1 train(0,1,0,1)=1");
    }

    private static void promisesOfDaysAndSettings() {
        edge("Promise 9", "Lets days pass.", "mine(1) pass(1)=0 count(2)=1 placeOf(1,0)=1 pass(99)=0 count(2)=100 placeOf(1,0)=100 count(13)=3");
        edge("Promise 9", "`days`: 1 to 99", "pass(0)=I pass(100)=I " + farOff("pass(?)") + "pass(1)=0 pass(99)=0 count(2)=100");
        edge("Promise 9", "Returns how many wagons arrive in them", "mine(0) 20*wagon(1) pass(1)=0 train(1,0,0,8) pass(1)=0 train(1,0,0,8)"
            + " leg(0,1,9) train(1,0,0,3) pass(1)=8 train(0,1,0,1) pass(9)=12 pass(99)=0");
        edge("Promise 9", "INVALID_ARGUMENT if days is out of range", ON_1980 + "pass(0)=I pass(100)=I pass(-1)=I count(2)=1980");
        edge("Promise 9", "LIMIT_REACHED if the day would be above 1999.", ON_1980 + "pass(20)=L pass(99)=L pass(19)=0 count(2)=1999 pass(1)=L"
            + " pass(99)=L undo()=3 pass(18)=0 pass(2)=L pass(1)=0 pass(1)=L count(2)=1999");

        edge("Promise 10", "Sets a setting.", "set(0,0) set(1,1) set(2,2) set(3,3) set(4,4) set(5,5) set(6,6) count(20)=0 count(21)=1 count(22)=2"
            + " count(23)=3 count(24)=4 count(25)=5 count(26)=6");
        edge("Promise 10", "`what`: 0 to 6", "set(-1,1)=I set(7,1)=I " + farOff("set(?,1)") + "set(0,1)=3 set(6,1)=3");
        edge("Promise 10", "`value`: a value in its range", "set(0,31)=I set(1,31)=10 set(6,31)=I set(3,0)=I set(6,0)=I set(0,0)=3 set(4,100)=I"
            + " set(4,99)=2 set(3,31)=20");
        edge("Promise 10", "Returns what it was", "set(2,4)=4 set(2,99)=4 set(2,0)=99 set(2,7)=0 undo()=3 set(2,8)=0");
        edge("Promise 10", "INVALID_ARGUMENT if an argument is out of range", "set(7,100)=I set(0,-1)=I count(20)=3 count(13)=0");
    }

    private static void promiseOfWagonOf() {
        String s = "Promise 11";
        edge(s, "Returns something of a wagon.", "mine(0) wagon(1) wagonOf(0,0)=1 wagonOf(0,1)=1 wagonOf(0,2)=0 wagonOf(0,3)=0 wagonOf(0,4)=0"
            + " wagonOf(0,5)=0 wagonOf(0,6)=F wagonOf(0,7)=6 wagonOf(0,8)=0");
        edge(s, "`wagon`: number of the wagon", "wagonOf(0,0)=I mine(0) 20*wagon(1) wagonOf(-1,0)=I wagonOf(20,0)=I wagonOf(19,0)=1 "
            + farOff("wagonOf(?,0)"));
        edge(s, "`what`: 0: its owner", "mine(0) mine(0) wagon(2) wagonOf(0,0)=2 train(2,1,0,1) wagonOf(0,0)=2 pass(2) wagonOf(0,0)=2");
        edge(s, "1: its place (of one on its way that to which it goes)", "mine(0) mine(0) wagon(2) wagonOf(0,1)=2 train(2,0,0,1) wagonOf(0,1)=0"
            + " pass(2) wagonOf(0,1)=0 train(0,1,0,1) wagonOf(0,1)=1 pass(1) wagonOf(0,1)=1");
        edge(s, "2: 1 if it is loaded, otherwise 0", AT_PORT + "wagonOf(0,2)=1 wagonOf(1,2)=0 unload(0) wagonOf(0,2)=0 repair(1) wagonOf(1,2)=0");
        edge(s, "3: 0 it stands, 1 it is on its way, 2 it is in repair", ALL_AT_PORT + "wagonOf(0,3)=0 repair(0) repair(1) repair(2) wagonOf(0,3)=2"
            + " wagonOf(2,3)=2 train(0,1,0,1) wagonOf(3,3)=1 pass(3) wagonOf(0,3)=0 wagonOf(2,3)=2 wagonOf(3,3)=0");
        edge(s, "4: its wear", "mine(0) wagon(1) leg(0,1,9) train(1,0,0,1) wagonOf(0,4)=0 pass(9) wagonOf(0,4)=9 repair(0) wagonOf(0,4)=9 pass(3)"
            + " wagonOf(0,4)=0");
        edge(s, "5: its standing", "mine(0) wagon(1) wagonOf(0,5)=0 20*pass(99) pass(19) wagonOf(0,5)=1999 wagon(1) wagonOf(1,5)=0");
        edge(s, "6: in how many days it comes, or its repair ends", "mine(0) 2*wagon(1) leg(0,1,9) set(6,30) train(1,0,0,2) wagonOf(0,6)=9 pass(8)"
            + " wagonOf(0,6)=1 pass(1) wagonOf(0,6)=F repair(1) wagonOf(1,6)=30 pass(29) wagonOf(1,6)=1 pass(1) wagonOf(1,6)=F");
        edge(s, "7: why it cannot be loaded", "mine(29) wagon(1) pass(1) wagonOf(0,7)=6 pass(1) wagonOf(0,7)=0");
        edge(s, "8: how often it was loaded so far", "mine(90) wagon(1) wagonOf(0,8)=0 pass(1) load(0) load(0)=N wagonOf(0,8)=1 train(1,0,1,1) pass(2)"
            + " unload(0) wagonOf(0,8)=1 train(0,1,0,1) pass(2) load(0) wagonOf(0,8)=2 undo()=3 wagonOf(0,8)=1");
        edge(s, "Returns the number;", "mine(60) mine(7) wagon(2) pass(1) train(2,1,0,1)=1 wagonOf(0,0)=2 wagonOf(0,1)=1 wagonOf(0,2)=0 wagonOf(0,3)=1"
            + " wagonOf(0,4)=0 wagonOf(0,5)=F wagonOf(0,6)=2 wagonOf(0,7)=1 wagonOf(0,8)=0 pass(2) load(0)=150 pass(1) wagonOf(0,0)=2 wagonOf(0,1)=1"
            + " wagonOf(0,2)=1 wagonOf(0,3)=0 wagonOf(0,4)=2 wagonOf(0,5)=1 wagonOf(0,6)=F wagonOf(0,7)=3 wagonOf(0,8)=1");
        edge(s, "INVALID_ARGUMENT if an argument is out of range", "mine(0) wagon(1) wagonOf(0,-1)=I wagonOf(0,9)=I wagonOf(1,9)=I "
            + farOff("wagonOf(0,?)"));
        edge(s, "NOT_FOUND for 5 if it does not stand", ALL_AT_PORT + "pass(1) train(0,1,0,1) wagonOf(0,5)=F repair(1) repair(2) repair(3)"
            + " wagonOf(1,5)=F wagonOf(3,5)=F wagonOf(4,5)=1");
        edge(s, "for 6 if it stands, or waits for a place in the shop", ALL_AT_PORT + "wagonOf(2,6)=F repair(0) repair(1) repair(2) wagonOf(2,6)=F"
            + " wagonOf(1,6)=3 pass(2) wagonOf(2,6)=F wagonOf(1,6)=1 pass(1) wagonOf(2,6)=3 wagonOf(1,6)=F");
    }

    private static void promiseOfPlaceOf() {
        String s = "Promise 12";
        edge(s, "Returns something of a place.", "placeOf(0,2)=0 placeOf(0,3)=0 placeOf(0,4)=0 placeOf(0,6)=0 placeOf(0,7)=0 placeOf(0,9)=0");
        edge(s, "`place`: a place", "4*mine(0) placeOf(-1,6)=I placeOf(5,6)=I placeOf(4,6)=0 " + farOff("placeOf(?,6)"));
        edge(s, "`what`: 0: its heap", "mine(90) placeOf(1,0)=0 pass(12) placeOf(1,0)=999");
        edge(s, "1: its rate", "mine(90) mine(0) placeOf(1,1)=90 placeOf(2,1)=0 pass(12) placeOf(1,1)=90");
        edge(s, "2: wagons that stand there empty, as a set", TWO_MINES + "placeOf(1,2)=4 placeOf(2,2)=2 placeOf(0,2)=0 train(1,0,0,1) placeOf(1,2)=0"
            + " placeOf(0,2)=0 pass(2) placeOf(0,2)=4 repair(2) placeOf(0,2)=0 pass(3) placeOf(0,2)=4");
        edge(s, "3: wagons that stand there loaded, as a set", TWO_MINES + "placeOf(1,3)=1 placeOf(2,3)=8 train(2,1,1,1) placeOf(2,3)=0 placeOf(1,3)=1"
            + " pass(2) placeOf(1,3)=9 train(1,0,1,8) pass(2) placeOf(0,3)=9 unload(3) placeOf(0,3)=1");
        edge(s, "4: wagons on their way to it, as a set", TWO_MINES + "train(1,0,2,8)=5 train(2,1,0,1)=2 placeOf(0,4)=5 placeOf(1,4)=2 placeOf(2,4)=0 pass(1)"
            + " placeOf(0,4)=5 pass(1) placeOf(0,4)=0 placeOf(1,4)=0");
        edge(s, "5: wagons that it owns, as a set", TWO_MINES + "placeOf(1,5)=5 placeOf(2,5)=10 train(1,2,2,8) pass(2) placeOf(1,5)=5 placeOf(2,5)=10");
        edge(s, "6: its account (of the port that of the pool)", AT_PORT + "unload(0) repair(1) placeOf(1,6)=35 placeOf(0,6)=-35");
        edge(s, "7: demurrage that it paid so far (the port: that was paid to it)", AT_PORT + "placeOf(1,7)=0 pass(5) placeOf(1,7)=20 placeOf(0,7)=20"
            + " unload(0) repair(1) placeOf(1,7)=20 placeOf(0,7)=20");
        edge(s, "8: hire that it got, less hire that it paid, so far", "mine(0) mine(0) wagon(1) 2*wagon(2) train(1,2,0,1) train(2,1,0,2)=6 pass(2)"
            + " placeOf(1,8)=-4 placeOf(2,8)=4 train(1,2,0,1)=2 pass(1) placeOf(1,8)=-4 train(1,2,0,1)=4 pass(9) placeOf(1,8)=32 placeOf(2,8)=-32");
        edge(s, "9: tonnes loaded there so far (the port: tonnes unloaded)", LOADED_ABROAD + "placeOf(2,9)=30 placeOf(1,9)=0 placeOf(0,9)=0"
            + " train(2,0,1,1) pass(2) unload(0) placeOf(0,9)=30 placeOf(2,9)=30 placeOf(1,9)=0");
        edge(s, "Returns the number;", TWO_MINES + "train(1,2,2,8)=5 pass(2) placeOf(2,0)=240 placeOf(2,1)=90 placeOf(2,2)=6 placeOf(2,3)=9 placeOf(2,4)=0"
            + " placeOf(2,5)=10 placeOf(2,6)=-8 placeOf(2,7)=0 placeOf(2,8)=-8 placeOf(2,9)=30 placeOf(1,6)=8 placeOf(1,9)=30");
        edge(s, "INVALID_ARGUMENT if an argument is out of range", "mine(0) placeOf(1,-1)=I placeOf(1,10)=I placeOf(0,-1)=I placeOf(0,10)=I"
            + " placeOf(2,0)=I placeOf(2,10)=I " + farOff("placeOf(0,?)") + farOff("placeOf(1,?)"));
        edge(s, "NOT_FOUND for 0, 1, 5 and 8 of the port.", "placeOf(0,0)=F placeOf(0,1)=F placeOf(0,2)=0 placeOf(0,3)=0 placeOf(0,4)=0 placeOf(0,5)=F"
            + " placeOf(0,6)=0 placeOf(0,7)=0 placeOf(0,8)=F placeOf(0,9)=0 mine(0) placeOf(1,0)=0 placeOf(1,1)=0 placeOf(1,5)=0 placeOf(1,8)=0");

        edge("Promise 13", "Returns how many days a leg takes.", "mine(0) days(0,1)=2 leg(0,1,9) days(0,1)=9 undo()=1 days(0,1)=2");
        edge("Promise 13", "`one`: a place", "4*mine(0) days(-1,0)=I days(5,0)=I days(4,0)=2 " + farOff("days(?,0)"));
        edge("Promise 13", "`other`: another place", "4*mine(0) days(0,-1)=I days(0,5)=I days(0,4)=2 " + farOff("days(0,?)"));
        edge("Promise 13", "Returns how many", "mine(0) mine(0) leg(1,2,1) days(1,2)=1 days(2,1)=1 days(0,1)=2 days(0,2)=2");
        edge("Promise 13", "INVALID_ARGUMENT if there is no such place, or both are the same.", "days(0,0)=I days(0,1)=I mine(0) days(0,0)=I"
            + " days(1,1)=I days(2,2)=I days(0,2)=I days(2,1)=I");
    }

    private static void promisesOfWhatWouldBe() {
        String s = "Promise 14";
        edge(s, "if nothing else is done", AT_PORT + "would(1,3)=0 would(1,4)=-10 would(0,4)=10 would(1,99)=-960 count(2)=3 count(13)=4 wagonOf(0,5)=0"
            + " placeOf(1,0)=150 unload(0) would(1,99)=60");
        edge(s, "if nothing else is done", "mine(0) mine(0) wagon(1) train(1,2,0,1) would(2,1)=0 would(2,2)=-4 would(1,2)=4 would(2,99)=-392"
            + " would(0,99)=0 wagonOf(0,3)=1 placeOf(2,6)=0");
        edge(s, "`place`: a place", "4*mine(0) would(-1,0)=I would(5,0)=I would(4,0)=0 would(0,0)=0 " + farOff("would(?,1)"));
        edge(s, "`days`: 0 to 99", "mine(0) would(1,-1)=I would(1,100)=I would(1,0)=0 would(1,99)=0 " + farOff("would(1,?)"));
        edge(s, "Returns the account", AT_PORT + "repair(1) would(1,0)=-25 would(0,0)=25 would(1,4)=-35 placeOf(1,6)=-25");
        edge(s, "INVALID_ARGUMENT if an argument is out of range.", "would(1,0)=I would(0,100)=I would(1,100)=I would(0,99)=0");
        // The limit of the day is told for pass alone.
        edge(s, "Tells what a place's account would be behind some days", "mine(0) mine(0) wagon(1) train(1,2,0,1) 20*pass(99) pass(19) set(2,1)"
            + " placeOf(2,6)=-7992 would(2,0)=-7992 would(2,1)=-7993 would(2,99)=-8091 count(2)=1999 pass(1)=L");

        s = "Promise 15";
        edge(s, "as many as could be loaded with its heap", "mine(29) mine(30) mine(90) mine(59) lacks(3)=0 pass(1) lacks(1)=0 lacks(2)=1 lacks(3)=3"
            + " lacks(4)=1 pass(11) lacks(3)=33 lacks(1)=11");
        edge(s, "less the empty ones that stand there and are not due", "mine(90) mine(0) wagon(1) wagon(2) pass(1) lacks(1)=2 load(0) lacks(1)=2"
            + " train(1,0,1,1) pass(2) unload(0) train(0,1,0,1) set(3,4) pass(2) lacks(1)=14 set(3,5) lacks(1)=13");
        edge(s, "less the empty ones on their way to it", "mine(90) mine(90) 2*wagon(2) pass(1) load(0) train(2,1,2,8) lacks(1)=2 lacks(2)=2 pass(1)"
            + " lacks(1)=5 pass(1) lacks(1)=8");
        edge(s, "less the empty ones on their way to it", "mine(90) mine(0) wagon(2) set(3,1) train(2,0,0,1) pass(2) train(0,1,0,1) count(12)=1"
            + " lacks(1)=5 pass(2) lacks(1)=12");
        edge(s, "less the empty ones on their way to it", "mine(90) 20*wagon(1) pass(12) 3*train(1,0,0,8) lacks(1)=33 pass(2) 3*train(0,1,0,8) lacks(1)=13"
            + " pass(1) lacks(1)=13 pass(1) lacks(1)=13");
        edge(s, "0 at least", "mine(30) mine(0) 3*wagon(1) wagon(2) lacks(1)=0 lacks(2)=0 pass(1) lacks(1)=0 pass(2) lacks(1)=0 pass(1) lacks(1)=1"
            + " train(2,1,0,1) lacks(1)=0");
        edge(s, "`mine`: a mine", "4*mine(30) pass(1) lacks(0)=I lacks(5)=I lacks(-1)=I lacks(4)=1 " + farOff("lacks(?)"));
        edge(s, "Returns how many", "mine(90) pass(12) lacks(1)=33 20*wagon(1) lacks(1)=13");
        edge(s, "INVALID_ARGUMENT.", "lacks(0)=I lacks(1)=I mine(0) lacks(0)=I lacks(1)=0 lacks(2)=I");
    }

    private static void promisesOfBestTrainAndShare() {
        String s = "Promise 16";
        String text = "to the mine that lacks most (at least one; of several the lowest)";
        edge(s, text, "mine(29) mine(0) wagon(2) pass(1) lacks(1)=0 bestTrain(0)=F bestTrain(1)=F bestTrain(2)=F pass(1) lacks(1)=1 bestTrain(0)=2"
            + " bestTrain(1)=1 bestTrain(2)=1");
        edge(s, text, "mine(0) mine(60) mine(60) mine(90) wagon(1) pass(1) bestTrain(1)=4 3*wagon(4) bestTrain(1)=2 wagon(2) bestTrain(1)=3");
        edge(s, text, "mine(90) mine(30) wagon(2) wagon(2) pass(1) bestTrain(1)=1 bestTrain(0)=2 train(2,1,0,2)=3 lacks(1)=1 lacks(2)=1"
            + " bestTrain(1)=F wagon(1) lacks(1)=0 bestTrain(1)=F 2*wagon(1) bestTrain(1)=F wagon(1) bestTrain(1)=2 bestTrain(0)=1 bestTrain(2)=1");
        String from = "from the other place whose leg to it takes the fewest days of those that have wagons to spare";
        edge(s, from, "mine(0) mine(0) mine(90) wagon(1) wagon(2) pass(1) bestTrain(0)=1 leg(2,3,1) bestTrain(0)=2 leg(3,1,1) bestTrain(0)=1 leg(1,3,9)"
            + " bestTrain(0)=2 leg(2,3,9) bestTrain(0)=1 leg(0,3,1) bestTrain(0)=1 train(1,0,0,1) pass(2) bestTrain(0)=0");
        edge(s, from, "mine(60) mine(30) 2*wagon(1) pass(1) bestTrain(0)=F wagon(1) bestTrain(0)=1 bestTrain(1)=2 bestTrain(2)=1 pass(1)"
            + " bestTrain(0)=F");
        edge(s, "(at a mine the empty ones that stand there and are not due, less as many as could be loaded with its heap", "mine(90) mine(30) 3*wagon(2)"
            + " pass(2) bestTrain(2)=1 load(0) bestTrain(2)=1 pass(1) bestTrain(0)=F wagon(2) bestTrain(2)=1");
        edge(s, "(at a mine the empty ones that stand there and are not due", "mine(90) mine(0) 2*wagon(2) train(2,0,0,1) pass(2) train(0,2,0,1) pass(2)"
            + " bestTrain(2)=2 set(3,4) bestTrain(2)=1 set(3,5) bestTrain(2)=2");
        edge(s, "at the port all empty ones that stand there and are not due)", "mine(90) 3*wagon(1) pass(1) load(2) train(1,0,2,8)=7 pass(2)"
            + " bestTrain(0)=0 bestTrain(2)=2 set(3,2) bestTrain(0)=F set(3,3) repair(0) bestTrain(2)=1 repair(1) bestTrain(2)=F pass(3) bestTrain(2)=2");
        edge(s, ", of several the lowest.", "mine(0) mine(0) mine(90) mine(0) wagon(1) wagon(2) wagon(4) 2*wagon(1) train(1,0,0,1) pass(2) bestTrain(0)=0"
            + " train(0,1,0,1) bestTrain(0)=1 leg(1,3,3) bestTrain(0)=2 train(2,1,0,1) bestTrain(0)=4");
        edge(s, "`what`: 0: from where", "mine(90) mine(0) wagon(2) pass(1) bestTrain(-1)=I bestTrain(3)=I bestTrain(0)=2 " + farOff("bestTrain(?)"));
        edge(s, "1: to where", "mine(0) mine(90) wagon(1) pass(1) bestTrain(1)=2 bestTrain(0)=1 bestTrain(2)=1");
        edge(s, "2: how many wagons: the lesser one of what is lacking and of those to spare, 8 at most", "mine(90) mine(0) 10*wagon(2) pass(2)"
            + " lacks(1)=6 bestTrain(2)=6 train(2,0,0,8) bestTrain(2)=2 undo()=3 wagon(1) bestTrain(2)=5 pass(1) lacks(1)=8 bestTrain(2)=8"
            + " pass(1) lacks(1)=11 bestTrain(2)=8 train(2,0,0,3) bestTrain(2)=7");
        edge(s, "Returns the number", "4*mine(90) 20*wagon(4) train(4,0,0,8) train(4,0,0,8) train(4,0,0,8) pass(2) bestTrain(0)=0 bestTrain(1)=1 bestTrain(2)=6");
        edge(s, "INVALID_ARGUMENT if what is out of range", "bestTrain(-1)=I bestTrain(3)=I bestTrain(0)=F");
        edge(s, "NOT_FOUND if there is none.", "bestTrain(0)=F bestTrain(1)=F bestTrain(2)=F mine(90) bestTrain(0)=F wagon(1) bestTrain(0)=F pass(1)"
            + " bestTrain(0)=F");

        s = "Promise 17";
        edge(s, "divided by all that it owns, as a float", "mine(90) 3*wagon(1) pass(1) share(1)=0 load(0) share(1)=1051372203 load(1)"
            + " share(1)=1059760811 load(2) share(1)=1065353216");
        edge(s, "divided by all that it owns, as a float", "mine(90) 20*wagon(1) pass(1) load(0) share(1)=1028443341 pass(11) "
            + loads(1, 18) + "share(1)=1064514355 load(19) share(1)=1065353216");
        edge(s, "(wherever they are)", "mine(90) mine(0) 2*wagon(1) wagon(2) pass(1) load(0) share(1)=1056964608 train(1,2,1,1) share(1)=1056964608"
            + " pass(2) share(1)=1056964608 share(2)=0 train(2,0,1,1) pass(2) share(1)=1056964608 share(2)=0 unload(0) share(1)=0");
        edge(s, "`mine`: a mine", "4*mine(0) wagon(4) share(4)=0 share(0)=I share(5)=I share(-1)=I " + farOff("share(?)"));
        edge(s, "Returns the bits of the float", "mine(90) wagon(1) share(1)=0 pass(1) load(0) share(1)=1065353216 wagon(1) share(1)=1056964608");
        edge(s, "INVALID_ARGUMENT;", "share(0)=I share(1)=I mine(0) share(0)=I share(2)=I");
        edge(s, "NOT_FOUND if it owns none.", "mine(0) mine(90) share(1)=F wagon(2) share(1)=F train(2,1,0,1) pass(2) share(1)=F wagon(1) share(1)=0 undo()=3"
            + " share(1)=F");
    }

    private static String loads(int first, int last) {
        StringBuilder words = new StringBuilder();
        for (int k = first; k <= last; k++) {
            words.append("load(").append(k).append(") ");
        }
        return words.toString();
    }

    private static void promiseOfCount() {
        String s = "Promise 18";
        edge(s, "Returns a number.", "count(0)=0 count(20)=3 count(26)=3");
        edge(s, "`what`: 0: mines", "count(0)=0 4*mine(0) count(0)=4 mine(0)=L count(0)=4");
        edge(s, "1: wagons", "count(1)=0 mine(0) 20*wagon(1) count(1)=20 wagon(1)=L count(1)=20");
        edge(s, "2: the day", "count(2)=0 20*pass(99) pass(19) count(2)=1999 pass(1)=L count(2)=1999");
        edge(s, "3: wagons that stand empty", AT_PORT + "count(3)=1 wagon(1) count(3)=2 repair(1) count(3)=1 train(1,0,0,1) count(3)=0");
        edge(s, "4: wagons that stand loaded", AT_PORT + "count(4)=1 train(0,1,1,1) count(4)=0 pass(2) count(4)=1");
        edge(s, "5: wagons on their way", ALL_AT_PORT + "count(5)=0 repair(0) count(5)=0 train(0,1,0,8) count(5)=8 pass(1) count(5)=8 pass(1) count(5)=0");
        edge(s, "5: wagons on their way", "mine(0) 20*wagon(1) 3*train(1,0,0,8) count(5)=20 count(3)=0 pass(2)=20 count(5)=0 count(3)=20");
        edge(s, "6: wagons in repair", ALL_AT_PORT + "count(6)=0 repair(0) repair(1) repair(2) count(6)=3 pass(3) count(6)=1 pass(3) count(6)=0");
        edge(s, "7: all accounts together, by the accounts", AT_PORT + "repair(1) pass(9) unload(0) count(7)=0");
        edge(s, "8: tonnes in all heaps and loaded wagons", "mine(90) mine(1) wagon(1) pass(12) count(8)=1011 load(0) count(8)=1011 pass(1) count(8)=1042"
            + " train(1,0,1,1) count(8)=1042 leg(0,1,1) pass(2) count(8)=1044 unload(0) count(8)=1014");
        edge(s, "8: tonnes in all heaps and loaded wagons", "mine(90) 20*wagon(1) pass(8) count(8)=720 " + loads(0, 19) + "count(8)=720 count(4)=20"
            + " placeOf(1,0)=120 placeOf(1,9)=600");
        edge(s, "9: repairs that ended so far", AT_PORT + "repair(1) count(9)=0 pass(2) count(9)=0 pass(1) count(9)=1 repair(1) pass(3) count(9)=2 undo()=3"
            + " count(9)=1");
        edge(s, "10: trains so far", AT_PORT + "count(10)=1 train(1,0,0,8)=N count(10)=1 train(0,1,2,8)=3 count(10)=2 undo()=3 count(10)=1");
        edge(s, "11: trains all of whose wagons were empty so far", AT_PORT + "count(11)=0 train(0,1,2,8)=3 count(11)=0 undo()=3 train(0,1,0,8)=2 count(11)=1"
            + " train(0,1,2,8)=1 count(11)=1 wagon(1) train(1,0,2,8)=4 count(11)=2");
        edge(s, "12: wagons that are due", AT_PORT + "count(12)=0 set(3,2) count(12)=2 wagon(1) count(12)=2 repair(1) count(12)=2 train(0,1,1,1) count(12)=2"
            + " pass(3) count(12)=1 set(3,3) count(12)=1 set(3,5) count(12)=0");
        edge(s, "12: wagons that are due", ALL_AT_PORT + "count(12)=0 set(3,3) count(12)=0 set(3,2) count(12)=20 repair(0) pass(3) count(12)=19");
        edge(s, "13: states in the history", "count(13)=0 undo()=N count(13)=0 5*pass(1) count(13)=4 undo()=3 count(13)=3");
        edge(s, "14: the length of the text", "count(14)=0 type(31)=I count(14)=0 60*type(65) count(14)=60 type(65)=L count(14)=60 clearText()=60"
            + " count(14)=0");
        edge(s, "20 to 26: the settings 0 to 6", "count(20)=3 count(21)=10 count(22)=4 count(23)=20 count(24)=2 count(25)=25 count(26)=3 set(6,30) count(26)=30"
            + " set(0,30) count(20)=30 count(19)=I count(27)=I");
        edge(s, "Returns the number;", TWO_MINES + "count(0)=2 count(1)=4 count(2)=1 count(3)=2 count(4)=2 count(5)=0 count(6)=0 count(7)=0"
            + " count(8)=180 count(9)=0 count(10)=0 count(11)=0 count(12)=0 count(13)=4 count(14)=0");
        edge(s, "INVALID_ARGUMENT if what is out of range", "count(-1)=I count(15)=I count(16)=I count(17)=I count(18)=I count(19)=I count(27)=I "
            + farOff("count(?)"));
    }

    private static void promisesOfTexts() {
        String s = "Promise 19";
        edge(s, "Restores the latest state of the history, which is removed from it.", "mine(7) pass(1) pass(1) undo()=2 count(2)=1 placeOf(1,0)=7 undo()=1"
            + " count(2)=0 undo()=0 count(0)=0 undo()=N mine(8)=1 placeOf(1,1)=8");
        // How long a journey is and who is ahead in the shop come back, too, and what was tried meanwhile leaves nothing behind.
        edge(s, "Restores the latest state of the history", "mine(0) wagon(1) leg(0,1,5) train(1,0,0,1) pass(5) leg(0,1,3)=5 train(0,1,0,1) undo()=3"
            + " undo()=2 undo()=1 wagonOf(0,6)=5 pass(5)=1 wagonOf(0,4)=5");
        edge(s, "Restores the latest state of the history", ALL_AT_PORT + "repair(0) repair(1) repair(2) repair(3) pass(3) repair(1)=2 repair(0)=3 pass(3)"
            + " undo()=3 undo()=2 undo()=1 undo()=0 count(6)=4 repair(4)=4 pass(3) wagonOf(0,3)=0 wagonOf(1,3)=0 wagonOf(2,6)=3 wagonOf(3,6)=3"
            + " wagonOf(4,6)=F pass(3) wagonOf(4,6)=3");
        edge(s, "Restores the latest state of the history", "mine(90) wagon(1) would(1,99)=0 pass(1) count(2)=1 placeOf(1,0)=90 would(1,99)=0 load(0)=60 undo()=3"
            + " would(1,99)=0 pass(1) count(2)=2 wagonOf(0,2)=0");
        edge(s, "Returns the number of states that are left in the history", "4*pass(1) undo()=3 undo()=2 undo()=1 undo()=0 pass(1) undo()=0");
        edge(s, "NOT_POSSIBLE if it is empty.", "undo()=N undo()=N pass(1) undo()=0 undo()=N count(2)=0");

        s = "Promise 20";
        edge(s, "Appends a character to the text.", "type(100)=1 type(49)=2 fault(2)=2 type(59)=3 fault(2)=F play()=1 count(2)=1 count(13)=1");
        edge(s, "`character`: 32 to 126", "type(31)=I type(127)=I type(32)=1 type(126)=2 " + farOff("type(?)") + "type(255)=I type(256)=I count(14)=2");
        edge(s, "Returns the length of the text", "type(65)=1 58*type(65) type(65)=60 clearText()=60 type(65)=1");
        edge(s, "INVALID_ARGUMENT if character is out of range", "60*type(65) type(31)=I type(127)=I count(14)=60");
        edge(s, "LIMIT_REACHED if it has 60 characters.", "59*type(65) type(65)=60 3*type(65)=L count(14)=60 clearText()=60 60*type(65) type(65)=L");

        s = "Promise 21";
        edge(s, "Empties the text.", "\"d1;x\" fault(0)=3 clearText()=4 count(14)=0 fault(0)=F play()=0 count(2)=0 \"d2;\" play()=1 count(2)=2");
        edge(s, "Returns the length it had.", "clearText()=0 type(65) clearText()=1 clearText()=0 60*type(65) clearText()=60 clearText()=0");

        s = "Promise 22";
        edge(s, "Tells about the fault of the text.", "mine(0) \"w1;w9;\" fault(0)=3 fault(1)=2 fault(2)=I");
        edge(s, "`what`: 0: its position", "\"d1;d1;d\" fault(0)=6 clearText() \"d\" fault(0)=0");
        edge(s, "1: its reason", "\"d1;d0\" fault(1)=1 \";\" fault(1)=2");
        edge(s, "2: its cause", "\"d1;d0\" fault(2)=2 \";\" fault(2)=I");
        edge(s, "Returns that", "mine(0) \"w1;l0;w1\" fault(0)=3 fault(1)=2 fault(2)=N mine(0) fault(0)=3");
        edge(s, "INVALID_ARGUMENT if what is out of range", "fault(-1)=I fault(3)=I \"x\" fault(-1)=I fault(3)=I fault(0)=0 " + farOff("fault(?)"));
        edge(s, "NOT_FOUND if the text has no fault (also if it is empty).", "fault(0)=F fault(1)=F fault(2)=F \"d1;\" fault(0)=F fault(1)=F fault(2)=F \"x\""
            + " fault(0)=3 clearText() fault(0)=F fault(1)=F fault(2)=F");

        s = "Promise 23";
        edge(s, "Does all orders of the text, which stays.", "mine(60) \"w1;w1;d2;l1;t1,0,2,8;d02;u1;\" play()=7 count(14)=28 placeOf(1,6)=60 wagonOf(1,8)=1"
            + " count(2)=4 play()=N clearText()=28");
        edge(s, "They are one change, also if there are none.", "play()=0 count(13)=1 4*play()=0 count(13)=4 undo()=3 \"d1;d2;d3;\" play()=3 count(13)=4"
            + " count(2)=6 undo()=3 count(2)=0 undo()=2");
        edge(s, "Returns how many there are in it", "play()=0 \"d1;\" play()=1 19*\"d1;\" play()=20 count(2)=21");
        edge(s, "NOT_POSSIBLE if it has a fault.", "mine(0) \"w1;d1;x\" play()=N count(1)=0 count(2)=0 count(13)=1 clearText() \"w1;d1;l0;\" play()=N"
            + " count(1)=0 count(2)=0 count(13)=1 clearText() \"w1\" play()=N count(1)=0");
    }
}
