/** Promises 27 to 32: what is heard, the book. */
public final class HeardTest {
    private static final String ROAD = "r10,30,20,45,5;w5,20,0;c0 25 3;c1 40 1;c2 20 3;c3 14 7;c0 5 2;";

    public static void main(String[] args) {
        hear();
        rains();
        rainsAsOfNow();
        send();
        sendOfLikeOnes();
        write();
        tear();
        judge();
        Check.finish();
    }

    private static void hear() {
        StuckTowns t = new StuckTowns();
        Check.due("hear without a road", t.hear(0, Check.NONE), Check.UNKNOWN);
        t = Check.on(ROAD);
        Check.due("hear of -1", t.hear(-1, 0), Check.UNKNOWN);
        Check.due("hear of 5", t.hear(5, 0), Check.UNKNOWN);
        Check.due("hear at 5", t.hear(0, 5), Check.UNKNOWN);
        Check.due("hear at -2", t.hear(0, -2), Check.UNKNOWN);
        Check.due("hear of nowhere", t.hear(4, Check.NONE), 1);
        for (int k = 2; k <= 6; k++) {
            Check.due("hear", t.hear(0, k - 2), k);
        }
        Check.due("hear a seventh", t.hear(0, 0), Check.FULL);
        Check.due("hear a seventh of none", t.hear(5, 0), Check.UNKNOWN);
        Check.due("heard", t.told(13), 6);
    }

    private static void rainsAre(StuckTowns t, int count, int least, int greatest) {
        Check.due("rains", t.rains(0), count);
        Check.due("least rain", t.rains(1), least);
        Check.due("greatest rain", t.rains(2), greatest);
    }

    private static void rains() {
        StuckTowns t = new StuckTowns();
        Check.due("rains -1", t.rains(-1), Check.OUTSIDE);
        Check.due("rains 3", t.rains(3), Check.OUTSIDE);
        rainsAre(t, 61, 0, 60);
        t = Check.on(ROAD);
        rainsAre(t, 61, 0, 60);
        t.hear(0, 1);
        rainsAre(t, 20, 5, 24);
        t.hear(4, 3);
        rainsAre(t, 15, 10, 24);
        t.hear(2, 3);
        rainsAre(t, 15, 10, 24);
        t.hear(1, 3);
        rainsAre(t, 0, Check.NONE, Check.NONE);
        t.tear();
        t.hear(4, Check.NONE);
        rainsAre(t, 10, 0, 9);
        t.tear();
        t.hear(0, 0);
        rainsAre(t, 36, 25, 60);
    }

    private static void rainsAsOfNow() {
        StuckTowns t = Check.on(ROAD);
        t.hear(0, 1);
        t.load(0, 20);
        rainsAre(t, 20, 10, 29);
        t.lay(1, 3);
        rainsAre(t, 17, 13, 29);
        t.storm(60);
        t.day(1);
        rainsAre(t, 17, 13, 29);
        t.hear(3, 0);
        rainsAre(t, 0, Check.NONE, Check.NONE);
        t.tear();
        t.hear(3, 0);
        rainsAre(t, 25, 36, 60);
        t.drive(3);
        rainsAre(t, 26, 35, 60);
    }

    private static void send() {
        StuckTowns t = new StuckTowns();
        Check.due("send without a road", t.send(), Check.NONE);
        t = Check.on("r1,2;");
        Check.due("send without carts", t.send(), Check.NONE);
        t = Check.on(ROAD);
        Check.due("send first", t.send(), 4);
        t.hear(0, 3);
        Check.due("send then", t.send(), 3);
        t.drive(3);
        t.pull(3);
        t.load(3, 1);
        t.hear(0, 3);
        Check.due("none parts them", t.send(), Check.NONE);
        t.hear(0, 1);
        Check.due("none fits", t.send(), Check.NONE);
        t.tear();
        Check.due("of like ones the least", t.send(), 3);
        t.load(3, 14);
        t.storm(10);
        Check.due("drive the best", t.drive(4), 3);
        Check.due("stuck ones, too", t.send(), 4);
    }

    private static void sendOfLikeOnes() {
        StuckTowns t = Check.on("r0,0;c2 9 0;c0 40 0;c0 40 1;c0 30 1;");
        Check.due("the halves are least", t.send(), 3);
        t.load(3, 60);
        Check.due("of like ones the least", t.send(), 1);
        t = Check.on("r0,0;c0 30 0;c0 29 0;");
        Check.due("30 and 31 is like 31 and 30", t.send(), 0);
        t.load(0, 28);
        Check.due("31 is less than 32", t.send(), 1);
        t = Check.on("r0,0;c0 59 0;");
        t.hear(0, Check.NONE);
        rainsAre(t, 1, 0, 0);
        Check.due("one alone is not parted", t.send(), Check.NONE);
    }

    private static void write() {
        StuckTowns t = new StuckTowns();
        Check.due("write without a road", t.write(0, 0), Check.UNKNOWN);
        t = Check.on(ROAD);
        Check.due("write of -1", t.write(-1, 0), Check.UNKNOWN);
        Check.due("write of 5", t.write(5, -2), Check.UNKNOWN);
        Check.due("write -2", t.write(0, -2), Check.OUTSIDE);
        Check.due("write 10000", t.write(0, 10000), Check.OUTSIDE);
        Check.due("write none", t.write(0, Check.NONE), 1);
        Check.due("write 9999", t.write(4, 9999), 2);
        for (int k = 3; k <= 15; k++) {
            Check.due("write", t.write(0, 0), k);
        }
        Check.due("write a 16th", t.write(0, 0), Check.FULL);
        Check.due("write a 16th of too many", t.write(0, 10000), Check.OUTSIDE);
        Check.due("write a 16th of no cell", t.write(5, 0), Check.UNKNOWN);
        Check.due("written", t.told(14), 15);
    }

    private static void tear() {
        StuckTowns t = Check.on(ROAD);
        Check.due("tear nothing", t.tear(), 0);
        t.hear(0, 1);
        t.hear(0, 0);
        t.write(0, 1);
        t.write(0, 1);
        t.write(0, 1);
        Check.due("tear both", t.tear(), 5);
        Check.due("nothing heard", t.told(13), 0);
        Check.due("nothing written", t.told(14), 0);
        Check.due("all rains again", t.rains(0), 61);
        Check.due("none is wrong", t.judge(), Check.NONE);
        Check.due("tear again", t.tear(), 0);
    }

    private static void judge() {
        StuckTowns t = Check.on(ROAD);
        t.write(3, Check.NONE);
        Check.due("no town is so", t.judge(), Check.NONE);
        t.write(3, 0);
        Check.due("no town is not 0 folk", t.judge(), 1);
        t.drive(3);
        Check.due("the first is wrong", t.judge(), 0);
        t.tear();
        t.write(3, 1);
        t.write(1, Check.NONE);
        t.write(3, 1);
        Check.due("all are right", t.judge(), Check.NONE);
        t.drive(1);
        Check.due("folk are more", t.judge(), 0);
        t.undo();
        t.drive(0);
        Check.due("a town where none should be", t.judge(), 1);
        t.raze(1);
        t.pull(3);
        t.tear();
        t.write(3, 0);
        t.write(1, Check.NONE);
        Check.due("a town without folk is 0", t.judge(), Check.NONE);
        t.write(0, 1);
        Check.due("the third", t.judge(), 2);
    }
}
