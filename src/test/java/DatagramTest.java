/** Frames, asking, cutting, forwarding and errors: promises 22 and 23, and what stands under "Terms". */
public final class DatagramTest {
    private static final Checks CHECKS = new Checks("DatagramTest");

    public static void main(String[] args) {
        askingInVain();
        stationsInTheirOrder();
        forgettingStations();
        sixteenWait();
        cutting();
        cuttingPieces();
        lostPieces();
        unreachable();
        hostsWithoutWay();
        goalNought();
        segmentsForRouters();
        tooOld();
        fullOfArrivals();
        CHECKS.end();
    }

    private static int address(int net, int station) {
        return (10 << 24) + (net << 16) + station + 1;
    }

    private static void runTo(WholeInternet x, int tick) {
        while (x.time() < tick) x.run(Math.min(1000, tick - x.time()));
    }

    private static void askingInVain() {
        WholeInternet x = new WholeInternet();
        x.net(576, 1);
        x.join(x.box(false), 0);
        x.open(0, address(0, 5), 1);
        int[] asks = {1, 21, 41};
        int put = 0;
        for (int ask : asks) {
            runTo(x, ask - 1);
            CHECKS.due("frames before " + ask, x.count(0, 0), put);
            x.run(1);
            put++;
            CHECKS.due("frames behind " + ask, x.count(0, 0), put);
        }
        runTo(x, 200);
        CHECKS.due("no more frames", x.count(0, 0), 3);
        CHECKS.due("OPEN was made at 1, 61, 181", x.count(0, 2), 3);
        CHECKS.due("asking", x.door(0, 0, 0), 2);
        CHECKS.due("no error", x.count(0, 7), 0);
        x.run(1);
        CHECKS.due("aborted 200 ticks behind the first asking", x.door(0, 0, 0), 11);
        CHECKS.due("three errors", x.count(0, 7), 3);
        CHECKS.due("no datagram was made for them", x.count(0, 2), 3);
        CHECKS.due("none was got", x.count(0, 3), 0);
        // asks anew
        x.open(0, address(0, 5), 1);
        x.run(1);
        CHECKS.due("it asks anew", x.count(0, 0), 4);

        // an answer ends the asking
        WholeInternet y = new WholeInternet();
        y.net(576, 1);
        y.join(y.box(false), 0);
        y.box(false);
        y.open(0, address(0, 1), 1);
        y.run(10);
        y.join(1, 0);
        y.run(12);
        CHECKS.due("two askings, and an answer", y.count(0, 0), 3);
        y.run(1);
        CHECKS.due("what waited is sent with the answer's coming", y.count(0, 0), 4);
        y.run(2);
        CHECKS.due("it was reset", y.door(0, 0, 0), 11);
    }

    private static void stationsInTheirOrder() {
        // station 1 is late with its answer: what waits for station 2 goes first
        WholeInternet x = new WholeInternet();
        x.net(576, 1);
        for (int i = 0; i < 3; i++) x.join(x.box(false), 0);
        x.listen(1, 80, 1);
        x.listen(2, 80, 1);
        x.open(0, address(0, 1), 80);
        x.open(0, address(0, 2), 80);
        x.fates(0, 3, 1);
        x.run(4);
        CHECKS.due("answering", x.door(2, 1, 0), 3);
        CHECKS.due("not yet", x.door(1, 1, 0), 12);
        x.run(3);
        CHECKS.due("answering", x.door(1, 1, 0), 3);
        // both stations and the others hear the askings: 2 each, and 2 answers, 6 segments
        x.run(5);
        CHECKS.due("put", x.count(0, 0), 10);
        CHECKS.due("arrived", x.count(0, 1), 12);
    }

    /** A station is known for 2500 ticks behind its last frame, that tick too. */
    private static void forgettingStations() {
        for (int late = 0; late < 2; late++) {
            WholeInternet x = new WholeInternet();
            x.net(576, 1);
            x.join(x.box(false), 0);
            x.join(x.box(false), 0);
            x.listen(1, 80, 5);
            x.open(0, address(0, 1), 80);
            x.run(20);
            // box 0 heard box 1 last at 5, box 1 box 0 at 6
            runTo(x, 5 + 2499 + late);
            x.fill(0, 0, 1, 1, 5);
            int put = x.count(0, 0);
            x.run(2);
            CHECKS.due("came in 2 ticks", x.door(1, 1, 4), late == 0 ? 5 : 0);
            CHECKS.due("frames", x.count(0, 0) - put, 2);
            x.run(2);
            CHECKS.due("came", x.door(1, 1, 4), 5);
        }
    }

    /** Of 35 segments that wait the last 16 are kept. */
    private static void sixteenWait() {
        WholeInternet x = new WholeInternet();
        x.net(100, 1);
        x.join(x.box(false), 0);
        x.join(x.box(false), 0);
        x.listen(1, 80, 5);
        x.open(0, address(0, 1), 80);
        runTo(x, 3000);
        x.fill(0, 0, 1, 1, 2048);
        int put = x.count(0, 0);
        int got = x.count(1, 3);
        int made = x.count(0, 2);
        x.run(1);
        CHECKS.due("35 are made", x.count(0, 2) - made, 35);
        CHECKS.due("one asking", x.count(0, 0) - put, 1);
        x.run(3);
        CHECKS.due("16 came", x.count(1, 3) - got, 16);
        CHECKS.due("none can be read", x.door(1, 1, 4), 0);
        CHECKS.due("no error", x.count(0, 7), 0);
        runTo(x, 60000);
        CHECKS.due("in the end all came", x.door(1, 1, 4), 2048);

        // the oldest one is gone, and with it the asking for its station: station 3 is asked for twice at most
        WholeInternet y = new WholeInternet();
        y.net(100, 1);
        for (int i = 0; i < 2; i++) y.join(y.box(false), 0);
        y.listen(1, 80, 5);
        y.open(0, address(0, 1), 80);
        runTo(y, 3000);
        y.open(0, address(0, 5), 80);
        y.run(1);
        put = y.count(0, 0);
        y.fates(0, 1, 1);
        y.fill(0, 0, 1, 1, 2048);
        y.run(1);
        CHECKS.due("one asks for station 1, and that is lost", y.count(0, 0) - put, 1);
        y.run(18);
        CHECKS.due("nothing more", y.count(0, 0) - put, 1);
        y.run(1);
        CHECKS.due("nothing waits for station 5 any more", y.count(0, 0) - put, 1);
        y.run(1);
        CHECKS.due("station 1 is asked for again", y.count(0, 0) - put, 2);
    }

    /** A - 1500 - R - 100 - S - 1500 - B: a segment of 1480 bytes is cut into 18 pieces of 80 and one of 40. */
    private static WholeInternet cutInTheMiddle(int middle, int last) {
        WholeInternet x = new WholeInternet();
        x.net(1500, 1);
        x.net(middle, 1);
        x.net(last, 1);
        x.net(1500, 1);
        for (int r = 0; r < 3; r++) {
            x.box(true);
            x.join(r, r);
            x.join(r, r + 1);
        }
        x.box(false);
        x.join(3, 0);
        x.box(false);
        int b = x.join(4, 3);
        x.run(100);
        x.listen(4, 80, 1);
        x.open(3, b, 80);
        x.run(45);
        CHECKS.due("on", x.door(3, 0, 0), 4);
        CHECKS.due("on", x.door(4, 1, 0), 4);
        return x;
    }

    private static void cutting() {
        // 107 less 20 is 87, and 80 when it is rounded down
        WholeInternet x = cutInTheMiddle(107, 1500);
        int cut = x.count(0, 5);
        int forwarded = x.count(1, 4);
        int got = x.count(4, 3);
        int greetings = x.time() / 20;
        x.fill(3, 0, 1, 1, 1460);
        x.run(8);
        CHECKS.due("all came", x.door(4, 1, 4), 1460);
        CHECKS.due("pieces", x.count(0, 5) - cut, 19);
        CHECKS.due("each was forwarded, and the thanks", x.count(1, 4) - forwarded, 20);
        CHECKS.due("box 1 cut nothing", x.count(1, 5), 0);
        CHECKS.due("put together", x.count(4, 6), 1);
        greetings = x.time() / 20 - greetings;
        CHECKS.due("got once", x.count(4, 3) - got, 1 + greetings);

        // 67 bytes and their heads are 107, and go whole; 68 are 88 bytes of payload, and go as 80 and 8
        cut = x.count(0, 5);
        x.fill(3, 0, 1, 1, 67);
        x.run(20);
        CHECKS.due("no pieces", x.count(0, 5) - cut, 0);
        x.fill(3, 0, 1, 1, 68);
        x.run(20);
        CHECKS.due("two pieces", x.count(0, 5) - cut, 2);
        CHECKS.due("put together", x.count(4, 6), 2);
        CHECKS.due("readAll()", x.readAll(4, 1, 2048) == 1, false);
        CHECKS.due("strays()", x.strays(), 0);
    }

    private static void cuttingPieces() {
        // 300: five pieces of 280 and one of 80; 100: of each of the five 80, 80, 80, 40; the sixth goes as it is
        WholeInternet x = cutInTheMiddle(300, 100);
        int first = x.count(0, 5);
        int second = x.count(1, 5);
        x.fill(3, 0, 1, 1, 1460);
        x.run(8);
        CHECKS.due("all came", x.door(4, 1, 4), 1460);
        CHECKS.due("pieces of box 0", x.count(0, 5) - first, 6);
        CHECKS.due("pieces of pieces", x.count(1, 5) - second, 20);
        CHECKS.due("put together", x.count(4, 6), 1);
        int told = 1;
        for (int i = 0; i < 1460; i++) told = 31 * told + (1 + i & 255);
        CHECKS.due("readAll()", x.readAll(4, 1, 2048), told);
        CHECKS.due("strays()", x.strays(), 0);
    }

    /** A piece is lost; a later copy of the datagram has another number, and is put together by itself. */
    private static void lostPieces() {
        WholeInternet x = cutInTheMiddle(100, 1500);
        runTo(x, 161);
        x.fates(1, 1 << 4, 3);
        x.fill(3, 0, 1, 1, 1460);
        x.run(10);
        CHECKS.due("not all came", x.door(4, 1, 4), 0);
        CHECKS.due("nothing was put together", x.count(4, 6), 0);
        runTo(x, 400);
        CHECKS.due("all came", x.door(4, 1, 4), 1460);
        CHECKS.due("put together once", x.count(4, 6), 1);
    }

    private static void unreachable() {
        WholeInternet x = new WholeInternet();
        x.net(1500, 1);
        x.net(1500, 1);
        x.box(true);
        x.join(0, 0);
        x.join(0, 1);
        x.box(false);
        x.join(1, 0);
        x.run(50);
        // no net 2; a low half of 9; another highest byte; the router says so at once
        int[] wrong = {address(2, 0), address(1, 8), address(1, -1), 11 << 24 | 1 << 16 | 1, -1};
        for (int i = 0; i < wrong.length; i++) {
            int made = x.count(0, 2);
            int frames = x.count(0, 0);
            x.open(1, wrong[i], 1);
            runTo(x, x.time() / 20 * 20 + 30);
            CHECKS.due("aborted", x.door(1, i, 0), 11);
            CHECKS.due("errors", x.count(1, 7), i + 1);
            CHECKS.due("the error and two greetings", x.count(0, 2) - made, 3);
            CHECKS.due("the segment, the error, a greeting", x.count(0, 0) - frames, 3);
        }
        CHECKS.due("nothing was forwarded", x.count(0, 4), 0);
        for (int i = 0; i < wrong.length; i++) x.close(1, i);
        // a net that is down: no way
        x.link(1, false);
        x.run(1);
        x.open(1, address(1, 1), 1);
        x.run(3);
        CHECKS.due("aborted", x.door(1, 0, 0), 11);
        // before the router's turn it is put there all the same
        x.link(1, true);
        x.close(1, 0);
        x.run(1);
        x.join(x.box(false), 1);
        x.open(1, address(1, 1), 1);
        x.run(10);
        CHECKS.due("reset by the host", x.door(1, 0, 0), 11);
        CHECKS.due("errors", x.count(1, 7), wrong.length + 1);
        CHECKS.due("forwarded", x.count(0, 4), 2);
        // an error about an end that is on does nothing
        x.close(1, 0);
        x.listen(2, 5, 1);
        x.open(1, address(1, 1), 5);
        x.run(20);
        x.link(1, false);
        x.run(1);
        x.fill(1, 0, 1, 1, 10);
        x.run(3);
        CHECKS.due("errors", x.count(1, 7), wrong.length + 2);
        CHECKS.due("still on", x.door(1, 0, 0), 4);
    }

    private static void hostsWithoutWay() {
        WholeInternet x = new WholeInternet();
        x.net(1500, 1);
        x.net(1500, 1);
        x.join(x.box(false), 0);
        x.open(0, address(1, 1), 1);
        x.open(0, address(0, 8), 1);
        x.open(0, address(0, -1), 1);
        x.open(0, 0, 1);
        x.run(1);
        for (int d = 0; d < 4; d++) CHECKS.due("aborted at once", x.door(0, d, 0), 11);
        CHECKS.due("errors", x.count(0, 7), 4);
        CHECKS.due("made", x.count(0, 2), 4);
        CHECKS.due("got", x.count(0, 3), 0);
        CHECKS.due("put", x.count(0, 0), 0);
        // with a router they still go nowhere that are on its own net
        x.join(x.box(true), 0);
        for (int d = 0; d < 4; d++) x.close(0, d);
        x.open(0, address(0, 8), 1);
        x.run(1);
        CHECKS.due("aborted at once", x.door(0, 0, 0), 11);
    }

    private static void goalNought() {
        WholeInternet x = new WholeInternet();
        x.net(1500, 1);
        x.join(x.box(true), 0);
        x.join(x.box(false), 0);
        x.run(41);
        int got = x.count(0, 3);
        x.open(1, 0, 1);
        x.run(3);
        CHECKS.due("the router got it", x.count(0, 3) - got, 1);
        CHECKS.due("and did nothing", x.door(1, 0, 0), 2);
        CHECKS.due("nothing was forwarded", x.count(0, 4), 0);
    }

    private static void segmentsForRouters() {
        WholeInternet x = new WholeInternet();
        x.net(1500, 1);
        x.net(1500, 1);
        x.box(true);
        x.join(0, 0);
        x.join(0, 1);
        x.join(x.box(false), 0);
        x.run(41);
        CHECKS.due("the host got two greetings", x.count(1, 3), 2);
        int got = x.count(0, 3);
        x.open(1, address(1, 0), 1);
        x.open(1, address(0, 0), 1);
        x.run(5);
        CHECKS.due("the router got both", x.count(0, 3) - got, 2);
        CHECKS.due("and did nothing", x.door(1, 0, 0), 2);
        CHECKS.due("and did nothing", x.door(1, 1, 0), 2);
    }

    /**
     * Box 0's net to the goal is down; what it tells of that to box 1 is lost again and again, so each
     * sends what is for there to the other one: 64 lives are the host's segment's, the 64th router has none left.
     */
    private static void tooOld() {
        WholeInternet x = new WholeInternet();
        x.net(1500, 1);
        x.net(1500, 1);
        x.net(1500, 1);
        x.net(1500, 1);
        x.net(1500, 1);
        int[][] joins = {{0, 1, 3}, {0, 2}, {1, 2, 4}};
        for (int r = 0; r < 3; r++) {
            x.box(true);
            for (int n : joins[r]) x.join(r, n);
        }
        x.cost(1, 2, 100);
        x.box(false);
        x.join(3, 3);
        x.box(false);
        int goal = x.join(4, 4);
        runTo(x, 121);
        CHECKS.due("box 0 goes by net 1", x.way(0, 4, 2), 1);
        CHECKS.due("box 1 goes by box 0", x.way(1, 4, 1), 0);
        x.link(1, false);
        x.open(3, goal, 1);
        // box 2 must not tell box 1 either
        x.fates(2, 0x5555555555555555L, 32);
        // the host sends at 122; from 123 on the segment goes over net 0 in each tick, before what is sent in turns
        int forwarded = x.count(0, 4) + x.count(1, 4);
        int[] adverts = {122, 137, 152, 167, 182};
        for (int i = 0; i < adverts.length; i++) {
            runTo(x, adverts[i] - 1);
            CHECKS.due("fates at " + adverts[i], x.fates(0, i == 0 ? 1 : 0b0100, i == 0 ? 1 : 2), i == 0 ? 1 : 2);
            x.run(1);
        }
        CHECKS.due("forwarded in 123 to 182", x.count(0, 4) + x.count(1, 4) - forwarded, 60);
        runTo(x, 185);
        int made = x.count(1, 2);
        x.run(1);
        CHECKS.due("the 64th router makes an error", x.count(1, 2) - made, 1);
        x.run(1);
        CHECKS.due("that is on its way", x.count(3, 7), 0);
        CHECKS.due("asking", x.door(3, 0, 0), 2);
        x.run(1);
        CHECKS.due("it came", x.count(3, 7), 1);
        CHECKS.due("aborted", x.door(3, 0, 0), 11);
    }

    private static void fullOfArrivals() {
        WholeInternet x = new WholeInternet();
        x.net(100, 50);
        for (int i = 0; i < 8; i++) x.join(x.box(false), 0);
        for (int i = 0; i < 8; i++) x.listen(i, 80, 5);
        for (int i = 0; i < 8; i++) {
            for (int k = 1; k < 4; k++) x.open(i, address(0, (i + k) % 8), 80);
        }
        x.run(900);
        for (int i = 0; i < 8; i++) {
            for (int d = 1; d < 6; d++) {
                if (x.door(i, d, 0) == 4) x.fill(i, d, i, d, 2048);
            }
        }
        int put = x.count(0, 0);
        x.run(1);
        CHECKS.due("more than 512 were put", x.count(0, 0) - put > 512, true);
        CHECKS.due("512 are under way", x.underWay(), 512);
        x.run(49);
        CHECKS.due("512 are under way", x.underWay(), 512);
        int arrived = x.count(0, 1);
        x.run(1);
        CHECKS.due("they arrived", x.count(0, 1) - arrived, 512);
        for (int i = 0; i < 60; i++) x.run(1000);
        CHECKS.due("strays()", x.strays(), 0);
    }
}
