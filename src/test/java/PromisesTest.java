/** A function for each promise of the document: ordinary inputs, named edges, wrong inputs. */
public final class PromisesTest {
    private static final String FOUR_MINES = "mine(60) mine(30) mine(0) mine(90) ";

    public static void main(String[] args) {
        newObject();
        mine();
        leg();
        wagon();
        load();
        unload();
        repair();
        repairsInTurn();
        train();
        trainsComeAsTheyWereTo();
        pass();
        standingAndDemurrage();
        hire();
        set();
        wagonOf();
        whyItCannotBeLoaded();
        placeOf();
        days();
        would();
        lacks();
        bestTrain();
        share();
        count();
        undo();
        undoOfEachChange();
        errorsChangeNothing();
        whatWouldBeChangesNothing();
        type();
        clearText();
        faultOfTheForm();
        faultOfTheCall();
        play();
        Calls.end();
    }

    // Promise 1
    private static void newObject() {
        for (int k = 0; k <= 14; k++) {
            Calls.run("count(" + k + ")=0");
        }
        Calls.run("count(20)=3 count(21)=10 count(22)=4 count(23)=20 count(24)=2 count(25)=25 count(26)=3");
        Calls.run("placeOf(0,2)=0 placeOf(0,3)=0 placeOf(0,4)=0 placeOf(0,6)=0 placeOf(0,7)=0 placeOf(0,9)=0");
        Calls.run("placeOf(1,0)=I wagonOf(0,0)=I undo()=N fault(0)=F bestTrain(0)=F");
    }

    // Promise 2
    private static void mine() {
        Calls.run("mine(0)=1 mine(90)=2 mine(45)=3 mine(1)=4 mine(1)=L mine(91)=I mine(-1)=I count(0)=4"
                + " placeOf(1,1)=0 placeOf(2,1)=90 placeOf(3,1)=45 placeOf(4,1)=1 placeOf(5,1)=I"
                + " placeOf(2,0)=0 placeOf(2,6)=0 count(13)=4");
        Calls.run("mine(-1)=I mine(91)=I mine(2147483647)=I mine(-2147483648)=I count(0)=0 count(13)=0");
        Calls.run("mine(90) pass(11) placeOf(1,0)=990 pass(1) placeOf(1,0)=999 pass(9) placeOf(1,0)=999");
    }

    // Promise 3
    private static void leg() {
        Calls.run(FOUR_MINES + "leg(0,1,9)=2 leg(1,0,1)=9 leg(0,1,1)=1 days(0,1)=1 days(1,0)=1"
                + " leg(4,3,7)=2 days(3,4)=7 days(4,3)=7 days(0,2)=2 days(1,2)=2 days(2,4)=2");
        Calls.run(FOUR_MINES + "leg(0,1,0)=I leg(0,1,10)=I leg(1,1,3)=I leg(0,0,3)=I leg(-1,0,3)=I"
                + " leg(0,-1,3)=I leg(5,0,3)=I leg(0,5,3)=I leg(2147483647,-2147483648,3)=I count(13)=4 days(0,1)=2");
        Calls.run("leg(0,1,3)=I mine(5) leg(0,1,3)=2 leg(1,2,3)=I undo()=1 leg(0,1,4)=2");
    }

    // Promise 4
    private static void wagon() {
        CoalWagons x = Calls.run(FOUR_MINES + "wagon(0)=I wagon(5)=I wagon(-1)=I wagon(3)=0 wagon(1)=1");
        Calls.more(x, "wagonOf(0,0)=3 wagonOf(0,1)=3 wagonOf(0,2)=0 wagonOf(0,3)=0 wagonOf(0,4)=0"
                + " wagonOf(0,5)=0 wagonOf(0,8)=0 wagonOf(1,0)=1 placeOf(3,2)=1 placeOf(1,5)=2");
        for (int k = 2; k < 20; k++) {
            Calls.more(x, "wagon(4)=" + k);
        }
        Calls.more(x, "wagon(4)=L wagon(5)=I wagon(0)=I count(1)=20 placeOf(4,5)=1048572 placeOf(4,2)=1048572");
        Calls.run("wagon(1)=I count(1)=0 mine(5) wagon(1)=0 pass(3) wagon(1)=1 wagonOf(0,5)=3 wagonOf(1,5)=0");
    }

    // Promise 5
    private static void load() {
        Calls.run("mine(60) wagon(1) wagon(1) wagon(1) load(0)=N pass(1) load(1)=30 load(0)=0 load(2)=N"
                + " load(0)=N placeOf(1,9)=60 wagonOf(0,8)=1 wagonOf(2,8)=0 wagonOf(1,2)=1 placeOf(1,3)=3");
        Calls.run("mine(29) wagon(1) pass(1) load(0)=N pass(1) load(0)=28 pass(2) wagonOf(0,5)=2");
        Calls.run("mine(60) wagon(1) pass(4) wagonOf(0,5)=4 load(0)=210 wagonOf(0,5)=0");
        Calls.run("load(0)=I mine(5) load(0)=I wagon(1) load(1)=I load(-1)=I load(20)=I load(-2147483648)=I");
    }

    // Promise 6
    private static void unload() {
        String atPort = "mine(60) wagon(1) wagon(1) pass(1) load(0) train(1,0,2,8)=3 unload(0)=N pass(2)=2 ";
        Calls.run(atPort + "unload(1)=N unload(0)=60 unload(0)=N placeOf(0,6)=-60 placeOf(0,9)=30"
                + " wagonOf(0,2)=0 wagonOf(0,1)=0 wagonOf(0,3)=0 count(7)=0");
        Calls.run(atPort + "set(4,99) pass(2) wagonOf(0,5)=2 unload(0)=2970 wagonOf(0,5)=0 wagonOf(1,5)=2");
        Calls.run(atPort + "set(4,0) unload(0)=0 placeOf(0,9)=30 wagonOf(0,2)=0");
        Calls.run("mine(60) wagon(1) pass(1) load(0) unload(0)=N unload(1)=I unload(-1)=I");
        // The coal of a wagon is its owner's, wherever it was loaded.
        Calls.run("mine(0) mine(60) wagon(1) train(1,2,0,1) pass(2) load(0)=90 train(2,0,1,1) pass(2)"
                + " unload(0)=64 placeOf(1,6)=64 placeOf(2,6)=-4 placeOf(0,6)=-60 placeOf(0,9)=30");
    }

    // Promise 7
    private static void repair() {
        String atPort = "mine(60) wagon(1) wagon(1) pass(1) load(0) train(1,0,2,8)=3 repair(1)=N pass(2)=2 ";
        Calls.run(atPort + "repair(0)=N repair(1)=0 repair(1)=N repair(2)=I repair(-1)=I"
                + " placeOf(1,6)=-25 placeOf(0,6)=25 wagonOf(1,3)=2 wagonOf(1,1)=0 wagonOf(1,6)=3"
                + " wagonOf(1,4)=2 count(6)=1 unload(0)=35 repair(0)=1");
        Calls.run(atPort + "set(5,99) repair(1)=0 placeOf(1,6)=-99 pass(2) wagonOf(1,6)=1 count(9)=0"
                + " pass(1) wagonOf(1,3)=0 wagonOf(1,4)=0 wagonOf(1,5)=0 wagonOf(1,6)=F count(9)=1 placeOf(0,2)=2"
                + " pass(1) wagonOf(1,5)=1 repair(1)=0 wagonOf(1,6)=3");
        Calls.run("mine(60) wagon(1) repair(0)=N");
        Calls.run(atPort + "repair(1) unload(1)=N load(1)=N train(0,1,0,8)=N train(0,1,2,8)=1");
    }

    // Promise 7 and the days: two places, those first that came first, days by the setting at the beginning
    private static void repairsInTurn() {
        String five = "mine(0) wagon(1) wagon(1) wagon(1) wagon(1) wagon(1) train(1,0,0,8)=31 pass(2)=5 ";
        Calls.run(five + "repair(4)=0 repair(0)=1 repair(3)=2 repair(1)=3 repair(2)=4 count(6)=5"
                + " wagonOf(4,6)=3 wagonOf(0,6)=3 wagonOf(3,6)=F wagonOf(1,6)=F pass(3)"
                + " wagonOf(4,3)=0 wagonOf(0,3)=0 wagonOf(3,6)=3 wagonOf(1,6)=3 wagonOf(2,6)=F count(9)=2"
                + " pass(3) wagonOf(2,6)=3 count(9)=4 count(6)=1 pass(3) count(9)=5 count(6)=0");
        // The one that came second may be over first, and its place goes to the next.
        Calls.run(five + "set(6,9) repair(0) set(6,1) repair(1) repair(2) set(6,5) repair(3) wagonOf(0,6)=9 wagonOf(1,6)=1"
                + " pass(1) wagonOf(1,3)=0 wagonOf(0,6)=8 wagonOf(2,6)=5 wagonOf(3,6)=F pass(5)"
                + " wagonOf(2,3)=0 wagonOf(0,6)=3 wagonOf(3,6)=5 repair(2)=2 pass(3) wagonOf(0,3)=0 wagonOf(2,6)=5"
                + " wagonOf(3,6)=2");
    }

    // Promise 8
    private static void train() {
        String x = "mine(60) mine(0) wagon(1) wagon(1) wagon(2) wagon(1) wagon(1) pass(1) load(1) load(4) ";
        Calls.run(x + "train(1,0,0,8)=9 wagonOf(0,3)=1 wagonOf(0,1)=0 wagonOf(1,3)=0 count(10)=1 count(11)=1");
        Calls.run(x + "train(1,0,1,8)=18 count(10)=1 count(11)=0");
        Calls.run(x + "train(1,0,2,8)=27 count(11)=0 count(5)=4");
        Calls.run(x + "train(1,0,2,1)=1 count(11)=1 train(1,0,2,1)=2 count(11)=1 train(1,0,1,1)=16 train(1,0,1,1)=N"
                + " train(1,0,0,1)=8 train(1,0,2,1)=N count(10)=4 count(11)=2");
        Calls.run(x + "train(2,1,1,8)=N train(0,1,2,8)=N train(2,1,0,8)=4 count(10)=1");
        Calls.run(x + "train(1,1,0,1)=I train(0,0,0,1)=I train(1,0,-1,1)=I train(1,0,3,1)=I train(1,0,0,0)=I"
                + " train(1,0,0,9)=I train(1,3,0,1)=I train(3,1,0,1)=I train(-1,1,0,1)=I train(1,-1,0,1)=I count(10)=0");
        // No more than 8 go, and those on their way or in repair do not stand.
        CoalWagons ten = Calls.run("mine(0)");
        for (int k = 0; k < 10; k++) {
            Calls.more(ten, "wagon(1)=" + k);
        }
        Calls.more(ten, "train(1,0,0,8)=255 train(1,0,0,8)=768 train(1,0,0,8)=N pass(2)=10 repair(0)=0 repair(9)=1"
                + " train(0,1,2,8)=510");
        // A due wagon travels all the same.
        Calls.run("mine(0) wagon(1) set(3,1) train(1,0,0,1) pass(2) count(12)=1 train(0,1,0,1)=1");
    }

    // Promises 3 and 8: what a train takes is what the leg took when it left
    private static void trainsComeAsTheyWereTo() {
        Calls.run("mine(0) wagon(1) wagon(1) leg(0,1,5) train(1,0,0,1)=1 leg(1,0,1)=5 wagonOf(0,6)=5 pass(4)=0"
                + " wagonOf(0,4)=0 train(1,0,0,1)=2 wagonOf(1,6)=1 pass(1)=2 wagonOf(0,4)=5 wagonOf(1,4)=1"
                + " wagonOf(0,5)=0 train(0,1,0,8)=3 pass(1)=2 wagonOf(0,4)=6 wagonOf(1,4)=2");
        Calls.run("mine(0) mine(0) wagon(1) leg(1,2,9) leg(0,2,4) train(1,2,0,1) pass(9)=1 wagonOf(0,1)=2 wagonOf(0,4)=9"
                + " train(2,0,2,1)=1 pass(4)=1 wagonOf(0,4)=13");
    }

    // Promise 9
    private static void pass() {
        Calls.run("pass(1)=0 count(2)=1 pass(99)=0 count(2)=100 pass(0)=I pass(100)=I pass(-1)=I count(2)=100");
        Calls.run("mine(7) wagon(1) wagon(1) train(1,0,0,1) pass(1)=0 train(1,0,0,1) pass(9)=2 placeOf(1,0)=70");
        CoalWagons old = new CoalWagons();
        for (int k = 0; k < 20; k++) {
            Calls.more(old, "pass(99)=0");
        }
        Calls.more(old, "count(2)=1980 pass(20)=L pass(99)=L pass(100)=I pass(0)=I count(2)=1980 pass(19)=0 count(2)=1999"
                + " pass(1)=L undo()=3 count(2)=1980 pass(18)=0 pass(2)=L pass(1)=0");
    }

    // Promise 9: days
    private static void standingAndDemurrage() {
        String atPort = "mine(60) mine(0) wagon(1) wagon(2) pass(1) load(0) train(1,0,1,1) train(2,0,0,1) pass(2)=2 ";
        Calls.run(atPort + "wagonOf(0,5)=0 pass(3) wagonOf(0,5)=3 placeOf(1,6)=0 pass(1) placeOf(1,6)=-10 placeOf(0,6)=10"
                + " placeOf(1,7)=10 placeOf(0,7)=10 placeOf(2,6)=0 placeOf(2,7)=0 pass(2) placeOf(1,6)=-30 count(7)=0"
                + " set(0,30) pass(1) placeOf(1,6)=-30 set(0,0) set(1,0) pass(1) placeOf(1,6)=-30 unload(0)=30");
        // With no free days the day of the arrival is still free.
        Calls.run("mine(60) wagon(1) pass(1) load(0) set(0,0) set(1,99) train(1,0,1,1) pass(2)=1 placeOf(1,6)=0"
                + " pass(1) placeOf(1,6)=-99");
        // A loaded wagon on its way, or at a mine, pays none.
        Calls.run("mine(60) wagon(1) pass(1) load(0) set(0,0) pass(9) placeOf(1,6)=0 leg(0,1,9) train(1,0,1,1) pass(8)"
                + " placeOf(1,6)=0 wagonOf(0,5)=F");
        // It stands anew when it comes back to the port, still loaded.
        Calls.run(atPort + "pass(3) train(0,1,1,1)=1 pass(2) train(1,0,1,1) pass(2) wagonOf(0,5)=0 pass(3)"
                + " placeOf(1,6)=0 pass(1) placeOf(1,6)=-10");
    }

    // Promise 9: days
    private static void hire() {
        Calls.run("mine(60) mine(0) wagon(1) train(1,2,0,1) pass(1) placeOf(2,6)=0 pass(1) placeOf(2,6)=-4 placeOf(1,6)=4"
                + " placeOf(2,8)=-4 placeOf(1,8)=4 pass(2) placeOf(2,8)=-12 set(2,99) pass(1) placeOf(2,6)=-111"
                + " placeOf(1,8)=111 set(2,0) pass(5) placeOf(1,6)=111 count(7)=0 placeOf(0,6)=0");
        // Both ways at once, loaded or not; none at the port or at home.
        Calls.run("mine(60) mine(60) mine(60) wagon(1) wagon(2) wagon(3) pass(1) load(0) train(1,2,1,1) train(2,1,0,1)"
                + " pass(3) placeOf(1,8)=0 placeOf(2,8)=0 train(1,3,0,1)=2 pass(3) placeOf(3,8)=-8 placeOf(2,8)=-4"
                + " placeOf(1,8)=12 placeOf(3,6)=-8 placeOf(2,6)=-4 placeOf(1,6)=12 train(3,0,0,1)=2 pass(9)"
                + " placeOf(3,8)=-8");
    }

    // Promise 10
    private static void set() {
        int[] low = {0, 0, 0, 1, 0, 0, 1};
        int[] high = {30, 99, 99, 99, 99, 99, 30};
        int[] first = {3, 10, 4, 20, 2, 25, 3};
        for (int k = 0; k < 7; k++) {
            String s = "set(" + k + ",";
            String c = " count(" + (20 + k) + ")=";
            Calls.run(s + (low[k] - 1) + ")=I " + s + (high[k] + 1) + ")=I" + c + first[k] + " " + s + low[k] + ")="
                    + first[k] + c + low[k] + " " + s + high[k] + ")=" + low[k] + c + high[k] + " " + s
                    + high[k] + ")=" + high[k] + " count(13)=3 undo()=2 undo()=1" + c + low[k] + " undo()=0" + c + first[k]);
        }
        Calls.run("set(7,1)=I set(-1,1)=I set(2147483647,1)=I set(-2147483648,1)=I set(1,2147483647)=I count(13)=0");
        // A wagon is due by the setting of now.
        Calls.run("mine(90) wagon(1) train(1,0,0,1) pass(2) train(0,1,0,1) pass(2) wagonOf(0,4)=4 wagonOf(0,7)=0"
                + " set(3,5) wagonOf(0,7)=0 set(3,4) wagonOf(0,7)=5 load(0)=N count(12)=1 set(3,99) load(0)=330");
    }

    // Promise 11
    private static void wagonOf() {
        Calls.run("wagonOf(0,0)=I mine(60) wagon(1) wagonOf(0,-1)=I wagonOf(0,9)=I wagonOf(1,0)=I wagonOf(-1,0)=I"
                + " wagonOf(1,9)=I wagonOf(0,5)=0 wagonOf(0,6)=F");
        Calls.run("mine(60) mine(5) wagon(2) wagonOf(0,0)=2 wagonOf(0,1)=2 train(2,1,0,1) wagonOf(0,0)=2 wagonOf(0,1)=1"
                + " wagonOf(0,3)=1 wagonOf(0,5)=F wagonOf(0,6)=2 pass(1) wagonOf(0,6)=1 wagonOf(0,4)=0 pass(1) wagonOf(0,6)=F"
                + " wagonOf(0,4)=2 wagonOf(0,5)=0 load(0)=90 wagonOf(0,2)=1 wagonOf(0,8)=1 train(1,0,1,1) wagonOf(0,2)=1"
                + " pass(2) unload(0) wagonOf(0,2)=0 wagonOf(0,8)=1 repair(0) wagonOf(0,5)=F wagonOf(0,6)=3 wagonOf(0,3)=2"
                + " wagonOf(0,1)=0 wagonOf(0,4)=4");
    }

    // Promise 11: the order of the reasons
    private static void whyItCannotBeLoaded() {
        Calls.run("mine(20) wagon(1) wagon(1) set(3,4) wagonOf(0,7)=6 pass(1) wagonOf(0,7)=6 pass(1) wagonOf(0,7)=0 load(0)"
                + " wagonOf(0,7)=3 wagonOf(1,7)=6 train(1,0,2,8)=3 wagonOf(0,7)=1 wagonOf(1,7)=1 pass(2) wagonOf(0,7)=3"
                + " wagonOf(1,7)=4 train(0,1,0,1)=2 pass(2) wagonOf(1,7)=5 set(3,5) wagonOf(1,7)=0 set(3,2) wagonOf(0,7)=3"
                + " unload(0) wagonOf(0,7)=4 repair(0) wagonOf(0,7)=2 pass(3) wagonOf(0,7)=4");
        // Due and no coal: due comes first.
        Calls.run("mine(0) wagon(1) set(3,1) train(1,0,0,1) pass(2) train(0,1,0,1) pass(2) wagonOf(0,7)=5 set(3,9) wagonOf(0,7)=6");
    }

    // Promise 12
    private static void placeOf() {
        Calls.run("placeOf(0,0)=F placeOf(0,1)=F placeOf(0,5)=F placeOf(0,8)=F placeOf(0,-1)=I placeOf(0,10)=I placeOf(1,0)=I"
                + " placeOf(-1,0)=I placeOf(5,10)=I mine(3) placeOf(1,-1)=I placeOf(1,10)=I placeOf(1,5)=0 placeOf(1,8)=0"
                + " placeOf(2,6)=I");
        Calls.run("mine(60) mine(30) wagon(1) wagon(2) wagon(1) wagon(2) pass(1) load(0) load(3) train(2,1,0,8)=2"
                + " placeOf(1,0)=30 placeOf(2,0)=0 placeOf(1,1)=60 placeOf(1,2)=4 placeOf(1,3)=1 placeOf(1,4)=2 placeOf(2,2)=0"
                + " placeOf(2,3)=8 placeOf(1,5)=5 placeOf(2,5)=10 placeOf(1,9)=30 train(1,0,2,8)=5 placeOf(0,4)=5 pass(2)"
                + " placeOf(0,2)=4 placeOf(0,3)=1 placeOf(0,4)=0 placeOf(1,2)=2 placeOf(1,6)=-4 placeOf(2,6)=4 placeOf(1,8)=-4"
                + " repair(2)=0 placeOf(0,2)=0 placeOf(0,4)=0 placeOf(0,6)=25 placeOf(1,6)=-29 unload(0)=31 placeOf(0,6)=-35"
                + " placeOf(0,2)=1 placeOf(0,3)=0 placeOf(0,9)=30 placeOf(1,5)=5 placeOf(1,9)=30 placeOf(2,9)=30 count(7)=0");
    }

    // Promise 13
    private static void days() {
        Calls.run("days(0,1)=I mine(0) days(0,1)=2 days(1,0)=2 days(1,1)=I days(0,0)=I days(0,2)=I days(2,0)=I days(-1,0)=I"
                + " days(0,-1)=I days(2147483647,-2147483648)=I leg(0,1,6) mine(0) days(1,2)=2 days(0,2)=2 days(0,1)=6");
    }

    // Promise 14
    private static void would() {
        Calls.run("would(0,0)=0 would(0,99)=0 would(0,100)=I would(0,-1)=I would(1,0)=I would(-1,0)=I mine(1) would(1,0)=0"
                + " would(2,0)=I");
        String x = "mine(60) mine(0) wagon(1) wagon(1) pass(1) load(0) train(1,0,1,1) train(1,2,0,1) ";
        Calls.run(x + "would(1,2)=4 would(2,2)=-4 would(1,1)=0 would(1,5)=16 would(0,5)=0 would(1,6)=10 would(0,6)=10"
                + " would(2,6)=-20 would(0,99)=940 would(1,99)=-548 would(2,99)=-392 count(2)=1 wagonOf(0,3)=1 count(13)=4"
                + " placeOf(1,0)=30 pass(6)=2 placeOf(1,6)=10 placeOf(0,6)=10");
        // The limit of the day is that of pass.
        CoalWagons old = Calls.run("mine(60) mine(0) wagon(1) pass(1) train(1,2,0,1)");
        for (int k = 0; k < 20; k++) {
            Calls.more(old, "pass(99)");
        }
        Calls.more(old, "pass(18) count(2)=1999 placeOf(2,6)=-7988 would(2,0)=-7988 would(2,99)=-8384 would(1,1)=7992");
        Calls.more(old, "count(2)=1999 pass(1)=L");
    }

    // Promise 15
    private static void lacks() {
        Calls.run("lacks(0)=I lacks(1)=I mine(59) lacks(0)=I lacks(2)=I lacks(-1)=I lacks(1)=0 pass(1) lacks(1)=1 pass(1)"
                + " lacks(1)=3 wagon(1) lacks(1)=2 load(0) lacks(1)=2 wagon(1) wagon(1) wagon(1) lacks(1)=0");
        // Those on their way to it count while they are empty; those due that stand there do not.
        Calls.run("mine(90) mine(0) wagon(1) wagon(1) pass(1) load(0)=60 lacks(1)=1 train(1,2,2,8)=3 lacks(1)=2 pass(2)"
                + " lacks(1)=8 train(2,1,2,8)=3 lacks(1)=7 set(3,4) pass(2) wagonOf(1,4)=4 lacks(1)=14 set(3,5) lacks(1)=13");
        Calls.run("mine(90) wagon(1) pass(1) set(3,1) train(1,0,0,1) pass(2) lacks(1)=9 train(0,1,0,1) lacks(1)=8"
                + " pass(2) lacks(1)=15");
    }

    // Promise 16
    private static void bestTrain() {
        Calls.run("bestTrain(-1)=I bestTrain(3)=I bestTrain(2)=F mine(90) bestTrain(0)=F pass(1) bestTrain(0)=F"
                + " bestTrain(3)=I bestTrain(-1)=I");
        String needy = "mine(30) mine(30) mine(0) mine(0) ";
        // Of the neediest the lowest mine; of the nearest the lowest place.
        Calls.run(needy + "wagon(3) wagon(3) wagon(4) pass(5) bestTrain(0)=3 bestTrain(1)=1 bestTrain(2)=2 leg(4,1,1)"
                + " bestTrain(0)=4 bestTrain(2)=1 leg(3,1,1) bestTrain(0)=3 wagon(1) bestTrain(1)=2 bestTrain(0)=3"
                + " train(3,0,0,2)=3 pass(2) bestTrain(1)=2 bestTrain(0)=0 leg(0,2,3) bestTrain(0)=4 bestTrain(2)=1");
        // The neediest one is chosen before the place from where: no other mine if none can spare.
        Calls.run("mine(60) mine(30) wagon(1) wagon(1) pass(1) bestTrain(0)=F wagon(1) bestTrain(0)=1 bestTrain(1)=2"
                + " bestTrain(2)=1 pass(1) bestTrain(0)=F");
        // Due ones are not to spare, at the port neither; loaded ones and those in repair neither.
        Calls.run("mine(90) mine(0) wagon(2) wagon(2) pass(1) train(2,0,0,1)=1 pass(2) bestTrain(0)=0 bestTrain(2)=1 set(3,2)"
                + " bestTrain(0)=2 set(3,3) bestTrain(0)=0 repair(0) bestTrain(0)=2 train(2,1,0,1) bestTrain(0)=F pass(3)"
                + " bestTrain(0)=0");
        // 8 at most.
        CoalWagons ten = Calls.run("mine(90) mine(0)");
        for (int k = 0; k < 10; k++) {
            Calls.more(ten, "wagon(2)");
        }
        Calls.more(ten, "pass(2) lacks(1)=6 bestTrain(2)=6 pass(1) lacks(1)=9 bestTrain(2)=8 bestTrain(0)=2 bestTrain(1)=1");
    }

    // Promise 17
    private static void share() {
        Calls.run("share(0)=I share(1)=I mine(90) share(0)=I share(2)=I share(-1)=I share(1)=F wagon(1) share(1)=0 pass(1)"
                + " load(0) share(1)=1065353216 train(1,0,1,1) share(1)=1065353216 pass(2) share(1)=1065353216 unload(0) share(1)=0");
        CoalWagons x = Calls.run("mine(0) mine(90) pass(20)");
        int owned = 0;
        int loaded = 0;
        // Every share that can be: wagons come one by one, and some go to the other mine to be loaded.
        for (int k = 0; k < 20; k++) {
            x.wagon(2);
            owned++;
            if (k % 3 != 1 && x.load(k) >= 0) {
                loaded++;
            }
            x.pass(1);
            Calls.due("share of " + loaded + " in " + owned, x.share(2), Float.floatToIntBits((float) loaded / (float) owned));
        }
        for (int all = 1; all <= 20; all++) {
            CoalWagons y = Calls.run("mine(90) pass(20)");
            for (int k = 0; k < all; k++) {
                y.wagon(1);
            }
            for (int k = 0; k < all; k++) {
                Calls.due("share of " + k + " in " + all, y.share(1), Float.floatToIntBits((float) k / (float) all));
                y.load(k);
            }
            Calls.due("share of all " + all, y.share(1), Float.floatToIntBits(1f));
        }
    }

    // Promise 18
    private static void count() {
        Calls.run("count(-1)=I count(15)=I count(16)=I count(17)=I count(18)=I count(19)=I count(27)=I count(2147483647)=I"
                + " count(-2147483648)=I");
        Calls.run("mine(60) mine(10) wagon(1) wagon(1) wagon(2) wagon(1) pass(2) load(0) load(1) count(0)=2 count(1)=4 count(2)=2"
                + " count(3)=2 count(4)=2 count(5)=0 count(8)=140 train(1,0,2,2)=3 count(3)=2 count(4)=0 count(5)=2 count(8)=140"
                + " train(2,0,0,1)=4 count(5)=3 count(10)=2 count(11)=1 set(3,2) count(12)=0 pass(2) count(12)=3 count(8)=280"
                + " count(4)=2 unload(0)=60 count(8)=250 count(7)=0 repair(0) repair(2) count(6)=2 count(3)=1 count(12)=3 pass(3)"
                + " count(9)=2 count(12)=1 count(13)=4 count(6)=0 \"d1;_\" count(14)=4 count(23)=2 count(7)=0");
    }

    // Promise 19
    private static void undo() {
        Calls.run("undo()=N mine(1)=1 count(13)=1 undo()=0 count(0)=0 undo()=N mine(2)=1 placeOf(1,1)=2");
        Calls.run("mine(1) mine(2) mine(3) mine(4) pass(1) count(13)=4 pass(2) count(13)=4 undo()=3 count(2)=1 undo()=2"
                + " count(2)=0 undo()=1 count(0)=3 undo()=0 count(0)=2 undo()=N count(0)=2 count(13)=0");
        // The text is not in the history.
        Calls.run("mine(5) \"w1;\" play()=1 clearText()=3 \"d1\" undo()=1 count(14)=2 count(1)=0 undo()=0 count(14)=2");
        // A state that was undone leaves nothing behind in what comes anew.
        Calls.run("mine(90) pass(1) wagon(1) load(0) undo()=3 undo()=2 wagon(1)=0 wagonOf(0,2)=0 wagonOf(0,8)=0 placeOf(1,0)=90"
                + " placeOf(1,9)=0");
        Calls.run("mine(60) mine(60) leg(0,2,9) undo()=2 days(0,2)=2 leg(0,2,9) undo()=2 undo()=1 mine(30)=2 days(0,2)=2"
                + " placeOf(2,0)=0 placeOf(2,1)=30");
    }

    // Promise 19: everything before a change comes back
    private static void undoOfEachChange() {
        String start = "mine(60) mine(30) wagon(1) wagon(1) wagon(2) pass(2) load(0) train(1,0,2,8) pass(2) set(0,1) ";
        String[] changes = {"mine(9)", "leg(0,1,4)", "wagon(2)", "load(2)", "unload(0)", "repair(1)", "train(0,2,2,8)",
            "pass(9)", "set(2,9)", "play()"};
        for (String change : changes) {
            CoalWagons x = Calls.run(start + "\"w1;r1;d5;\"");
            String before = Calls.tellAll(x);
            int answer = Calls.answer(x, change);
            Calls.due(change + " changes", answer >= 0 ? 1 : 0, 1);
            Calls.due(change + " is to be seen", Calls.tellAll(x).equals(before) ? 1 : 0, 0);
            x.undo();
            Calls.due(change + " is undone", Calls.tellAll(x).equals(before) ? 1 : 0, 1);
        }
    }

    private static void errorsChangeNothing() {
        String start = "mine(60) mine(30) wagon(1) wagon(1) wagon(2) pass(2) load(0) train(1,0,2,8) pass(1) ";
        String[] errors = {"mine(91)", "leg(0,0,4)", "wagon(3)", "load(0)", "unload(0)", "repair(1)", "train(0,2,2,8)",
            "pass(100)", "set(2,100)", "play()", "fault(3)", "type(127)", "days(0,9)", "would(0,100)", "lacks(0)",
            "bestTrain(3)", "share(0)", "wagonOf(3,0)", "placeOf(3,0)", "count(15)"};
        for (String error : errors) {
            CoalWagons x = Calls.run(start + "\"w1;d1;t0,1,2,8;w3;\"");
            String before = Calls.tellAll(x) + x.count(13);
            int answer = Calls.answer(x, error);
            Calls.due(error + " is an error", answer <= CoalWagons.INVALID_ARGUMENT ? 1 : 0, 1);
            Calls.due(error + " changes nothing", before.equals(Calls.tellAll(x) + x.count(13)) ? 1 : 0, 1);
        }
    }

    // Promises 14 and 22: what is only tried leaves nothing behind in the changes that follow
    private static void whatWouldBeChangesNothing() {
        String start = "mine(60) mine(30) wagon(1) wagon(1) wagon(2) pass(2) load(0) train(1,0,2,8) pass(2) \"d1;w2;r1;t0,2,2,8;\" ";
        String[] changes = {"mine(9)", "leg(0,1,4)", "wagon(2)", "load(2)", "unload(0)", "repair(1)", "train(0,2,2,8)",
            "pass(9)", "set(2,9)", "play()"};
        for (String change : changes) {
            CoalWagons plain = Calls.run(start + change);
            CoalWagons tried = Calls.run(start + "fault(0)=F " + change);
            CoalWagons later = Calls.run(start + "would(1,99) " + change);
            Calls.due(change + " after a text is tried", Calls.tellAll(tried).equals(Calls.tellAll(plain)) ? 1 : 0, 1);
            Calls.due(change + " after days are tried", Calls.tellAll(later).equals(Calls.tellAll(plain)) ? 1 : 0, 1);
        }
        // A journey and the row at the shop are as they were, too.
        Calls.run("mine(0) mine(0) wagon(1) leg(0,1,5) leg(0,2,3) train(1,0,0,1)=1 \"d5;t0,2,0,1;\" fault(0)=F pass(5)=1"
            + " wagonOf(0,4)=5");
        Calls.run("mine(0) wagon(1) wagon(1) wagon(1) wagon(1) train(1,0,0,8) pass(2) repair(0) repair(1) repair(2) repair(3)"
            + " \"d4;r1;r0;\" fault(0)=F pass(3) wagonOf(0,3)=0 wagonOf(1,3)=0 wagonOf(2,6)=3 wagonOf(3,6)=3 pass(3)"
            + " count(9)=4 count(6)=0");
    }

    // Promise 20
    private static void type() {
        Calls.run("type(31)=I type(127)=I type(-1)=I type(2147483647)=I count(14)=0 type(32)=1 type(126)=2 count(14)=2 count(13)=0");
        CoalWagons x = new CoalWagons();
        for (int k = 1; k <= 60; k++) {
            Calls.more(x, "type(" + (66 + k % 2) + ")=" + k);
        }
        Calls.more(x, "type(65)=L type(31)=I type(127)=I count(14)=60 clearText()=60 type(65)=1");
    }

    // Promise 21
    private static void clearText() {
        Calls.run("clearText()=0 \"w1;\" clearText()=3 count(14)=0 clearText()=0 fault(0)=F count(13)=0 play()=0 mine(4) \"d1;\""
                + " play()=1 count(2)=1 undo()=2 count(14)=3");
    }

    // Promise 22, reason 1
    private static void faultOfTheForm() {
        broken("x", 0);
        broken(";", 0);
        broken("_", 0);
        broken("1;", 0);
        broken("W1;", 0);
        broken("w", 1);
        broken("w;", 1);
        broken("w_1;", 1);
        broken("w-1;", 1);
        broken("w,1;", 1);
        broken("w1", 2);
        broken("w1,", 2);
        broken("w1_;", 2);
        broken("w11", 3);
        broken("w111;", 3);
        broken("l1w1;", 2);
        broken("u", 1);
        broken("r1:", 2);
        broken("d9", 2);
        broken("d:;", 1);
        broken("d/;", 1);
        broken("d1/;", 2);
        broken("t", 1);
        broken("t;", 1);
        broken("t1", 2);
        broken("t1;", 2);
        broken("t1,", 3);
        broken("t1,,", 3);
        broken("t1,0", 4);
        broken("t1,0;", 4);
        broken("t01,00,000", 9);
        broken("t1,0,0;", 6);
        broken("t1,0,0,", 7);
        broken("t1,0,0,;", 7);
        broken("t1,0,0,1", 8);
        broken("t1,0,0,1,", 8);
        broken("t1,0,0,12", 9);
        broken("t1,0,0,123;", 9);
    }

    /** An order alone, and the same behind two that are done. */
    private static void broken(String order, int cause) {
        Calls.run("mine(60) \"" + order + "\" fault(0)=0 fault(1)=1 fault(2)=" + cause + " play()=N");
        Calls.run("mine(60) \"w1;d01;" + order + "\" fault(0)=7 fault(1)=1 fault(2)=" + cause + " play()=N count(13)=1");
    }

    // Promise 22, reason 2
    private static void faultOfTheCall() {
        Calls.run("fault(0)=F fault(1)=F fault(2)=F fault(3)=I fault(-1)=I \"w1;\" fault(0)=0 fault(1)=2 fault(2)=" + CoalWagons.INVALID_ARGUMENT
                + " fault(3)=I fault(-1)=I mine(1) fault(0)=F fault(1)=F fault(2)=F fault(3)=I");
        Calls.run("mine(60) \"w1;l0;\" fault(0)=3 fault(1)=2 fault(2)=N pass(1) fault(0)=F");
        Calls.run("mine(60) \"w01;d1;l00;t1,0,1,8;d2;u0;r0;\" fault(0)=F play()=7 placeOf(1,6)=35 fault(0)=7 fault(1)=2 fault(2)=N");
        Calls.run("mine(60) \"w1;d0;\" fault(0)=3 fault(1)=2 fault(2)=I");
        Calls.run("mine(60) \"d99;t0,0,0,1;\" fault(0)=4 fault(1)=2 fault(2)=I");
        Calls.run("mine(60) \"w1;t1,0,0,9;\" fault(0)=3 fault(2)=I");
        Calls.run("mine(60) \"w1;u0;\" fault(0)=3 fault(2)=N");
        Calls.run("mine(60) \"w1;r0;\" fault(0)=3 fault(2)=N");
        Calls.run("mine(60) \"w0;\" fault(0)=0 fault(2)=I");
        Calls.run("mine(60) \"l20;\" fault(0)=0 fault(2)=I");
        // The first one counts, of whatever kind the later ones are.
        Calls.run("mine(60) \"w1;u0;x\" fault(0)=3 fault(1)=2 clearText() \"w1;u;u0;\" fault(0)=3 fault(1)=1 fault(2)=1");
        CoalWagons full = Calls.run("mine(60)");
        for (int k = 0; k < 19; k++) {
            Calls.more(full, "wagon(1)");
        }
        Calls.more(full, "\"w1;w1;\" fault(0)=3 fault(1)=2 fault(2)=L wagon(1) fault(0)=0 fault(2)=L");
        CoalWagons old = new CoalWagons();
        for (int k = 0; k < 20; k++) {
            Calls.more(old, "pass(99)");
        }
        Calls.more(old, "\"d19;d1;\" fault(0)=4 fault(1)=2 fault(2)=L count(2)=1980 play()=N clearText() \"d19;\" fault(0)=F"
                + " play()=1 count(2)=1999");
    }

    // Promise 23
    private static void play() {
        Calls.run("play()=0 count(13)=1 play()=0 count(13)=2 undo()=1 undo()=0 \"w1;\" play()=N count(13)=0 undo()=N");
        Calls.run("mine(60) \"w1;w1;d2;l1;t1,0,2,8;d02;u1;\" play()=7 count(13)=2 count(14)=28 placeOf(1,6)=60 wagonOf(1,8)=1"
                + " count(10)=1 count(2)=4 undo()=1 count(1)=0 count(2)=0 placeOf(1,0)=0 play()=7 fault(0)=9 play()=N count(1)=2"
                + " count(2)=4 count(13)=2");
        Calls.run("mine(60) \"w1;w1;d2;l1;t1,0,2,8;d02;u0;\" play()=N count(1)=0 count(2)=0 count(13)=1 fault(0)=25 fault(1)=2");
        Calls.run("mine(60) \"w1;\" play()=1 play()=1 count(1)=2 type(120)=4 play()=N count(1)=2 clearText()=4 play()=0");
    }
}
