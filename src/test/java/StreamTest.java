/** The ends of streams, tick by tick, on a net of delay 1: their states, their alarm, their windows. */
public final class StreamTest {
    private static final Checks CHECKS = new Checks("StreamTest");
    private static final int A = (10 << 24) + 1;
    private static final int B = (10 << 24) + 2;

    public static void main(String[] args) {
        opening();
        openingIntoTheVoid();
        refusal();
        bothAskAtOnce();
        pieces();
        lossAndAlarm();
        measuredWait();
        givingUp();
        shutWindow();
        lastBehindAShutWindow();
        openingTheWindow();
        copiesAndLateOnes();
        bothLeaveAtOnce();
        quietAnew();
        resetWithLostBytes();
        answeringOneIsReset();
        CHECKS.end();
    }

    private static WholeInternet twoHosts(int largest) {
        WholeInternet x = new WholeInternet();
        x.net(largest, 1);
        x.join(x.box(false), 0);
        x.join(x.box(false), 0);
        return x;
    }

    /** Box 0's door 0 is ON with box 1's door 1, at time 10, after 7 frames. */
    private static WholeInternet joinedHosts(int largest) {
        WholeInternet x = twoHosts(largest);
        x.listen(1, 80, 5);
        x.open(0, B, 80);
        x.run(10);
        x.accept(1, 0);
        return x;
    }

    private static void states(WholeInternet x, int client, int server) {
        CHECKS.due("client's state at " + x.time(), x.door(0, 0, 0), client);
        CHECKS.due("server's state at " + x.time(), x.door(1, 1, 0), server);
    }

    /** Asking for the station 1 and 2, answer 2 and 3, OPEN 3 and 4, OPEN with THANKS 4 and 5, THANKS 5 and 6. */
    private static void opening() {
        WholeInternet x = twoHosts(576);
        x.listen(1, 80, 1);
        x.open(0, B, 80);
        int[] client = {2, 2, 2, 2, 2, 4, 4};
        int[] server = {12, 12, 12, 12, 3, 3, 4};
        int[] put = {0, 1, 2, 3, 4, 5, 5};
        int[] arrived = {0, 0, 1, 2, 3, 4, 5};
        for (int t = 0; t <= 6; t++) {
            states(x, client[t], server[t]);
            CHECKS.due("put at " + t, x.count(0, 0), put[t]);
            CHECKS.due("arrived at " + t, x.count(0, 1), arrived[t]);
            x.run(1);
        }
        CHECKS.due("box 0 made two", x.count(0, 2), 2);
        CHECKS.due("box 0 got one", x.count(0, 3), 1);
        CHECKS.due("box 1 made one", x.count(1, 2), 1);
        CHECKS.due("box 1 got two", x.count(1, 3), 2);
    }

    /** OPEN is lost again and again: it is sent 60, 180, 420, 900, 1860, 3060, 4260 and 5460 ticks later once more. */
    private static void openingIntoTheVoid() {
        WholeInternet x = twoHosts(576);
        x.listen(1, 80, 1);
        x.listen(0, 80, 1);
        x.open(1, A, 80);
        x.run(8);
        x.open(0, B, 80);
        int[] sends = {9, 69, 189, 429, 909, 1869, 3069, 4269, 5469};
        for (int send : sends) {
            // box 0 hears of the other one, and so knows it for 2500 ticks
            runTo(x, Math.max(x.time(), send - 40));
            if (send > 9) x.write(1, 1, 1, 1);
            runTo(x, send - 1);
            x.fates(0, 1, 1);
            int before = x.count(0, 0);
            x.run(1);
            CHECKS.due("OPEN is sent at " + send, x.count(0, 0) - before, 1);
        }
        int made = x.count(0, 2);
        runTo(x, 6668);
        CHECKS.due("still asking", x.door(0, 2, 0), 2);
        x.run(1);
        CHECKS.due("given up with the ninth alarm", x.door(0, 2, 0), 11);
        CHECKS.due("nothing more was made", x.count(0, 2), made);
    }

    private static void runTo(WholeInternet x, int tick) {
        while (x.time() < tick) x.run(Math.min(1000, tick - x.time()));
    }

    private static void refusal() {
        WholeInternet x = twoHosts(576);
        x.open(0, B, 80);
        x.run(4);
        CHECKS.due("asking", x.door(0, 0, 0), 2);
        CHECKS.due("the host answered at once", x.count(1, 2), 1);
        x.run(1);
        CHECKS.due("aborted", x.door(0, 0, 0), 11);
        int put = x.count(0, 0);
        x.run(200);
        CHECKS.due("nothing more is sent", x.count(0, 0), put);
    }

    private static void bothAskAtOnce() {
        WholeInternet x = twoHosts(576);
        x.open(0, B, 50000);
        x.open(1, A, 50000);
        x.fill(0, 0, 1, 1, 10);
        // the asking for a station is a frame of that one, too: each OPEN is sent at 2
        x.run(2);
        CHECKS.due("asking", x.door(0, 0, 0), 2);
        x.run(1);
        CHECKS.due("answering", x.door(0, 0, 0), 3);
        CHECKS.due("answering", x.door(1, 0, 0), 3);
        x.run(1);
        CHECKS.due("the other's OPEN with THANKS does not fit", x.door(0, 0, 0), 3);
        x.run(1);
        CHECKS.due("on", x.door(0, 0, 0), 4);
        CHECKS.due("on", x.door(1, 0, 0), 4);
        x.run(5);
        CHECKS.due("what was written before came", x.readAll(1, 0, 10), told(1, 1, 10));
        CHECKS.due("no further door", x.door(1, 1, 0), 12);
        CHECKS.due("strays()", x.strays(), 0);
    }

    private static int told(int seed, int step, int n) {
        int told = 1;
        for (int i = 0; i < n; i++) told = 31 * told + (seed + i * step & 255);
        return told;
    }

    /** A segment takes at most the net's largest less 40 bytes, and all that may be sent goes in one turn. */
    private static void pieces() {
        WholeInternet x = joinedHosts(100);
        int put = x.count(0, 0);
        x.fill(0, 0, 1, 1, 601);
        CHECKS.due("nothing in the call", x.count(0, 0), put);
        x.run(1);
        CHECKS.due("11 segments of at most 60 bytes", x.count(0, 0) - put, 11);
        CHECKS.due("none was thanked for", x.door(0, 0, 6), 601);
        x.run(1);
        CHECKS.due("all came", x.door(1, 1, 4), 601);
        CHECKS.due("one thanks for all", x.count(0, 0) - put, 12);
        x.run(1);
        CHECKS.due("all is thanked for", x.door(0, 0, 6), 0);
        CHECKS.due("nothing was cut", x.count(0, 5), 0);

        // LAST goes with the last bytes
        put = x.count(0, 0);
        x.fill(0, 0, 1, 1, 60);
        x.close(0, 0);
        x.run(1);
        CHECKS.due("60 bytes and LAST in one segment", x.count(0, 0) - put, 1);
        x.run(1);
        states(x, 5, 7);
    }

    /** What is lost is sent again when the alarm comes: once, from the oldest number on. */
    private static void lossAndAlarm() {
        WholeInternet x = joinedHosts(140);
        // OPEN was measured with 4 ticks: WAIT is 20
        x.fates(0, 0b0001_01, 3);
        x.fill(0, 0, 1, 1, 300);
        x.run(1);
        int put = x.count(0, 0);
        x.run(1);
        CHECKS.due("the third segment came, out of order", x.door(1, 1, 4), 0);
        CHECKS.due("and is thanked for", x.count(0, 0) - put, 1);
        x.run(18);
        CHECKS.due("nothing until the alarm", x.count(0, 0) - put, 1);
        x.run(1);
        CHECKS.due("the first segment again", x.count(0, 0) - put, 2);
        x.run(1);
        CHECKS.due("it came", x.door(1, 1, 4), 100);
        x.run(1);
        CHECKS.due("it is thanked for", x.door(0, 0, 6), 200);
        // WAIT is doubled, and set anew with the thanks at 33
        x.run(39);
        CHECKS.due("nothing until the alarm", x.count(0, 0) - put, 3);
        x.run(1);
        CHECKS.due("the second segment again", x.count(0, 0) - put, 4);
        x.run(1);
        CHECKS.due("with it the third one can be read", x.door(1, 1, 4), 300);
        CHECKS.due("readAll()", x.readAll(1, 1, 300), told(1, 1, 300));
        CHECKS.due("strays()", x.strays(), 0);
    }

    /** With a delay of 30 the opening is measured with 60 ticks: WAIT is 60 + 120. */
    private static void measuredWait() {
        WholeInternet x = new WholeInternet();
        x.net(576, 30);
        x.join(x.box(false), 0);
        x.join(x.box(false), 0);
        x.listen(0, 80, 1);
        x.listen(1, 80, 1);
        x.open(1, A, 80);
        x.run(400);
        CHECKS.due("on", x.door(1, 1, 0), 4);
        // both know one another: OPEN at 401, its thanks at 461, before its alarm rings in the turn
        x.open(0, B, 80);
        x.run(60);
        CHECKS.due("asking", x.door(0, 2, 0), 2);
        x.run(1);
        CHECKS.due("on", x.door(0, 2, 0), 4);
        CHECKS.due("OPEN was sent once", x.count(0, 2), 3);
        int put = x.count(0, 0);
        x.fates(0, 1, 1);
        x.fill(0, 2, 1, 1, 100);
        x.run(1);
        CHECKS.due("sent, and lost", x.count(0, 0) - put, 1);
        x.run(179);
        CHECKS.due("not yet again", x.count(0, 0) - put, 1);
        x.run(1);
        CHECKS.due("again", x.count(0, 0) - put, 2);
        // what was sent again is not measured: WAIT stays 360
        x.run(100);
        CHECKS.due("thanked for", x.door(0, 2, 6), 0);
        put = x.count(0, 0);
        x.fates(0, 1, 1);
        x.fill(0, 2, 1, 1, 100);
        x.run(360);
        CHECKS.due("not yet again", x.count(0, 0) - put, 1);
        x.run(1);
        CHECKS.due("again", x.count(0, 0) - put, 2);
        x.run(200);
        // a measured one of 60 ticks: d is 0, SPREAD 120 - 30, WAIT 60 + 90
        x.fill(0, 2, 1, 1, 100);
        x.run(100);
        put = x.count(0, 0);
        x.fates(0, 1, 1);
        x.fill(0, 2, 1, 1, 100);
        x.run(150);
        CHECKS.due("not yet again", x.count(0, 0) - put, 1);
        x.run(1);
        CHECKS.due("again", x.count(0, 0) - put, 2);
    }

    /** The alarm rings 20, 60, 140, 300, 620, 1260, 2460, 3660 ticks after sending; with the ninth, 4860, it is over. */
    private static void givingUp() {
        WholeInternet x = joinedHosts(576);
        x.link(0, false);
        x.fill(0, 0, 1, 1, 10);
        x.run(1);
        int made = x.count(0, 2);
        runTo(x, 11 + 19);
        CHECKS.due("not yet", x.count(0, 2), made);
        x.run(1);
        CHECKS.due("again", x.count(0, 2), made + 1);
        runTo(x, 11 + 4859);
        CHECKS.due("eight times", x.count(0, 2), made + 8);
        CHECKS.due("still on", x.door(0, 0, 0), 4);
        x.run(1);
        CHECKS.due("aborted", x.door(0, 0, 0), 11);
        CHECKS.due("without a reset", x.count(0, 2), made + 8);
        CHECKS.due("what was not thanked for is as it was", x.door(0, 0, 6), 10);
    }

    private static void shutWindow() {
        WholeInternet x = joinedHosts(1500);
        x.fill(0, 0, 1, 1, 2048);
        x.run(3);
        CHECKS.due("all came", x.door(1, 1, 4), 2048);
        CHECKS.due("all is thanked for", x.door(0, 0, 6), 0);
        x.run(1);
        int put = x.count(0, 0);
        x.fill(0, 0, 1, 1, 100);
        // the alarm is set in the call, at 14, and comes 20 ticks later; a probe of one byte is thanked for with window 0
        x.run(19);
        CHECKS.due("nothing may be sent", x.count(0, 0), put);
        x.run(1);
        CHECKS.due("a probe", x.count(0, 0) - put, 1);
        x.run(1);
        CHECKS.due("and its thanks", x.count(0, 0) - put, 2);
        CHECKS.due("its byte found no room", x.door(1, 1, 4), 2048);
        x.run(38);
        CHECKS.due("nothing in between", x.count(0, 0) - put, 2);
        x.run(1);
        CHECKS.due("it is sent again 40 ticks later", x.count(0, 0) - put, 3);
        for (int i = 0; i < 20; i++) x.run(1000);
        CHECKS.due("the end does not give up while it is thanked", x.door(0, 0, 0), 4);
        CHECKS.due("readAll()", x.readAll(1, 1, 2048), told(1, 1, 2048));
        x.run(3);
        CHECKS.due("the window is open: the probe's byte is still to come, the others came", x.door(1, 1, 4), 0);
        x.run(1000);
        x.run(1000);
        CHECKS.due("all came", x.door(1, 1, 4), 100);
        CHECKS.due("readAll()", x.readAll(1, 1, 2048), told(1, 1, 100));
        CHECKS.due("strays()", x.strays(), 0);
    }

    private static void lastBehindAShutWindow() {
        WholeInternet x = joinedHosts(1500);
        x.fill(0, 0, 1, 1, 2048);
        x.run(3);
        x.run(1);
        int put = x.count(0, 0);
        x.close(0, 0);
        x.run(19);
        CHECKS.due("nothing may be sent", x.count(0, 0), put);
        x.run(1);
        CHECKS.due("a probe with LAST", x.count(0, 0) - put, 1);
        x.run(3);
        states(x, 5, 4);
        x.readAll(1, 1, 2048);
        x.run(100);
        states(x, 6, 7);
        CHECKS.due("read()", x.read(1, 1), -2);
    }

    /** Reading tells the peer when there is room for 1024 bytes or a largest piece again. */
    private static void openingTheWindow() {
        WholeInternet x = joinedHosts(1500);
        x.fill(0, 0, 1, 1, 2048);
        x.run(4);
        int put = x.count(0, 0);
        x.readAll(1, 1, 1023);
        x.run(3);
        CHECKS.due("not yet", x.count(0, 0), put);
        x.read(1, 1);
        x.run(1);
        CHECKS.due("a thanks", x.count(0, 0) - put, 1);
        x.readAll(1, 1, 1024);
        x.run(3);
        CHECKS.due("no more", x.count(0, 0) - put, 1);

        WholeInternet y = joinedHosts(140);
        y.fill(0, 0, 1, 1, 2048);
        y.run(4);
        put = y.count(0, 0);
        y.readAll(1, 1, 99);
        y.run(1);
        CHECKS.due("not yet", y.count(0, 0), put);
        y.read(1, 1);
        y.run(1);
        CHECKS.due("a thanks for 100 bytes", y.count(0, 0) - put, 1);
    }

    private static void copiesAndLateOnes() {
        WholeInternet x = twoHosts(576);
        x.listen(1, 80, 5);
        // all frames come twice
        x.fates(0, 0xAAAAAAAAAAAAAAAAL, 32);
        x.open(0, B, 80);
        x.fill(0, 0, 5, 3, 1500);
        x.run(30);
        states(x, 4, 4);
        CHECKS.due("no further door", x.door(1, 2, 0), 12);
        CHECKS.due("readAll()", x.readAll(1, 1, 2048), told(5, 3, 1500));
        CHECKS.due("strays()", x.strays(), 0);
        lateOnes();
    }

    /** Segments overtake one another. */
    private static void lateOnes() {
        WholeInternet x = joinedHosts(576);
        x.fates(0, 0b00110011, 4);
        x.fill(0, 0, 5, 3, 2000);
        x.run(2);
        CHECKS.due("the first one is late", x.door(1, 1, 4), 0);
        x.run(4);
        CHECKS.due("all came", x.door(1, 1, 4), 2000);
        CHECKS.due("readAll()", x.readAll(1, 1, 2048), told(5, 3, 2000));
        CHECKS.due("strays()", x.strays(), 0);
    }

    private static void bothLeaveAtOnce() {
        WholeInternet x = joinedHosts(576);
        x.close(0, 0);
        x.close(1, 1);
        x.run(1);
        states(x, 5, 5);
        x.run(1);
        states(x, 8, 8);
        x.run(1);
        states(x, 10, 10);
    }

    /** The thanks for a LAST is lost: the LAST comes again, and the quiet time begins anew. */
    private static void quietAnew() {
        WholeInternet x = joinedHosts(576);
        x.close(0, 0);
        x.run(3);
        states(x, 6, 7);
        x.close(1, 1);
        x.run(1);
        x.fates(0, 1, 1);
        x.run(1);
        states(x, 10, 9);
        int quiet = x.time();
        x.run(20);
        states(x, 10, 9);
        x.run(1);
        states(x, 10, 0);
        int last = x.time() - 1;
        CHECKS.due("LAST came again", last - quiet, 20);
        runTo(x, last + 1999);
        CHECKS.due("still quiet", x.door(0, 0, 0), 10);
        x.run(1);
        CHECKS.due("free", x.door(0, 0, 0), 0);
    }

    /** A reset behind lost bytes does not count, but the answer to its thanks does. */
    private static void resetWithLostBytes() {
        WholeInternet x = joinedHosts(576);
        x.fates(0, 1, 1);
        x.fill(0, 0, 1, 1, 10);
        x.run(1);
        x.abort(0, 0);
        x.run(2);
        states(x, 11, 4);
        x.run(2);
        states(x, 11, 11);
    }

    /** A host resets what thanks for a stream that it does not know; an answering end listens again then, and is gone. */
    private static void answeringOneIsReset() {
        WholeInternet x = twoHosts(576);
        x.listen(1, 80, 1);
        x.open(0, B, 80);
        x.run(4);
        CHECKS.due("answering", x.door(1, 1, 0), 3);
        x.close(0, 0);
        x.close(0, 0);
        x.run(1);
        CHECKS.due("still answering", x.door(1, 1, 0), 3);
        x.run(1);
        CHECKS.due("its door is free", x.door(1, 1, 0), 12);
    }
}
