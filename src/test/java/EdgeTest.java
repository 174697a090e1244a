/** Rare meetings of frames, pieces, ends and ways, each brought about by a schedule of its own. */
public final class EdgeTest {
    private static final Checks CHECKS = new Checks("EdgeTest");

    public static void main(String[] args) {
        lateTies();
        piecesInTime();
        firstPieceComesBack();
        fourDatagramsWait();
        roomForBothArrivals();
        resetsBehindTheLast();
        quietOnesAbortSilently();
        newEndsAreNotDrained();
        listeningAgain();
        answeringAnOldOpen();
        notCalm();
        CHECKS.end();
    }

    private static int address(int net, int station) {
        return (10 << 24) + (net << 16) + station + 1;
    }

    private static void runTo(WholeInternet x, int tick) {
        while (x.time() < tick) x.run(Math.min(1000, tick - x.time()));
    }

    /** The way over the lesser net costs as much, but goes by a router that is farther off. */
    private static void lateTies() {
        WholeInternet x = new WholeInternet();
        for (int n = 0; n < 7; n++) x.net(1500, 1);
        int[][] joins = {{5, 1}, {5, 2}, {1, 3}, {2, 3, 6}};
        for (int r = 0; r < 4; r++) {
            x.box(true);
            for (int n : joins[r]) x.join(r, n);
        }
        x.cost(0, 5, 5);
        x.cost(1, 2, 15);
        runTo(x, 120);
        CHECKS.due("way(0, 6, 0)", x.way(0, 6, 0), 30);
        CHECKS.due("over the lesser net", x.way(0, 6, 2), 1);
        CHECKS.due("to router 2", x.way(0, 6, 1), 2);
        x.cost(1, 2, 14);
        runTo(x, 140);
        CHECKS.due("over the cheaper one", x.way(0, 6, 2), 5);
    }

    /**
     * A segment is cut in two, and its second piece is late on each of its nets: by 300 ticks it is in time,
     * by 303 the first one was given up.
     */
    private static void piecesInTime() {
        for (int further = 0; further < 2; further++) {
            WholeInternet x = new WholeInternet();
            x.net(1500, 1);
            x.net(100, 50);
            x.net(1500, 50);
            x.net(1500, 1);
            for (int r = 0; r < 3; r++) {
                x.box(true);
                x.join(r, r);
                x.join(r, r + 1);
            }
            x.box(false);
            x.join(3, 0);
            x.box(false);
            int b = x.join(4, 2 + further);
            x.listen(4, 80, 1);
            runTo(x, 400);
            x.open(3, b, 80);
            runTo(x, 1000);
            CHECKS.due("on", x.door(3, 0, 0), 4);
            // OPEN was sent again, these bytes are measured with 202 ticks at least: WAIT is above 600 then
            x.fill(3, 0, 1, 1, 10);
            runTo(x, 2001);
            CHECKS.due("all is thanked for", x.door(3, 0, 6), 0);
            x.fill(3, 0, 1, 1, 68);
            x.fates(1, 3 << 2, 2);
            // sent at 2002, forwarded by router 0 at 2003, by router 1 at 2053 and 2203
            runTo(x, 2202);
            CHECKS.due("fates", x.fates(2, 3, 1), 1);
            runTo(x, 2402);
            CHECKS.due("not yet", x.count(4, 6), 0);
            CHECKS.due("fates", x.fates(3, 3, 1), 1);
            x.run(1);
            CHECKS.due("late by 300 ticks", x.count(4, 6), further == 0 ? 1 : 0);
            x.run(4);
            CHECKS.due("late by 303 ticks", x.count(4, 6), further == 0 ? 1 : 0);
        }
    }

    /** Of all pieces of a segment that come back the first one alone makes an error. */
    private static void firstPieceComesBack() {
        WholeInternet x = new WholeInternet();
        int[] largest = {1500, 100, 1500};
        for (int l : largest) x.net(l, 1);
        for (int r = 0; r < 2; r++) {
            x.box(true);
            x.join(r, r);
            x.join(r, r + 1);
        }
        x.box(false);
        x.join(2, 0);
        x.box(false);
        int b = x.join(3, 2);
        x.listen(3, 80, 1);
        runTo(x, 100);
        x.open(2, b, 80);
        runTo(x, 141);
        x.fill(2, 0, 1, 1, 1460);
        x.run(1);
        x.link(2, false);
        int put = x.count(2, 0);
        int made = x.count(1, 2);
        // router 0 cuts at 143; router 1's last turn found the net down, and it has no way
        x.run(2);
        CHECKS.due("nothing is put there", x.count(2, 0), put);
        CHECKS.due("adverts told, and one error", x.count(2, 7), 0);
        x.run(2);
        CHECKS.due("one error", x.count(2, 7), 1);
        CHECKS.due("router 1 made an advert, thanks and an error", x.count(1, 2) - made <= 3, true);
        CHECKS.due("the end is on", x.door(2, 0, 0), 4);
    }

    /** Five segments of two pieces: the first piece of the fifth one drives out that of the first one. */
    private static void fourDatagramsWait() {
        for (int lost = 0; lost < 2; lost++) {
            WholeInternet x = new WholeInternet();
            x.net(1500, 1);
            x.net(100, 1);
            x.net(1500, 1);
            for (int r = 0; r < 2; r++) {
                x.box(true);
                x.join(r, r);
                x.join(r, r + 1);
            }
            x.box(false);
            x.join(2, 0);
            x.box(false);
            int b = x.join(3, 2);
            x.listen(3, 80, 5);
            runTo(x, 100);
            for (int d = 0; d < 5; d++) x.open(2, b, 80);
            runTo(x, 141);
            for (int d = 0; d < 5; d++) x.fill(2, d, d, 1, 68);
            // the second pieces are late, that of the first segment is lost at first
            long fates = 0;
            for (int d = 0; d < 5; d++) fates |= 3L << 4 * d + 2;
            if (lost == 0) fates = fates & ~(3L << 2) | 1L << 2;
            x.fates(1, fates, 10);
            runTo(x, 149);
            // with all second pieces coming that of the first one drives out the second one, and so on
            CHECKS.due("put together", x.count(3, 6), lost == 0 ? 4 : 0);
        }
    }

    /** With 511 under way a frame of fate 2 is lost wholly, and one of fate 0 is the 512th. */
    private static void roomForBothArrivals() {
        WholeInternet x = new WholeInternet();
        x.net(100, 50);
        for (int i = 0; i < 8; i++) x.join(x.box(false), 0);
        for (int i = 0; i < 8; i++) x.listen(i, 80, 5);
        for (int i = 0; i < 8; i++) {
            for (int k = 1; k < 3; k++) x.open(i, address(0, (i + k) % 8), 80);
        }
        x.run(1000);
        int filled = 0;
        for (int i = 0; i < 8; i++) {
            for (int d = 1; d < 3 && filled < 15; d++) {
                CHECKS.due("on", x.door(i, d, 0), 4);
                x.fill(i, d, i, d, 34 * 60);
                filled++;
            }
        }
        x.fill(7, 2, 1, 1, 1);
        x.run(1);
        CHECKS.due("511 under way", x.underWay(), 511);
        x.fates(0, 2, 2);
        x.fill(7, 2, 2, 1, 1);
        x.run(1);
        CHECKS.due("no room for both", x.underWay(), 511);
        x.fill(7, 2, 3, 1, 1);
        x.run(1);
        CHECKS.due("room for one", x.underWay(), 512);
        x.fill(7, 2, 4, 1, 1);
        int put = x.count(0, 0);
        x.run(1);
        CHECKS.due("no room", x.underWay(), 512);
        CHECKS.due("put all the same", x.count(0, 0) - put, 1);
    }

    /** Box 0's door 0 is ON with box 1's door 1, on a net of delay 1, at time 10. */
    private static WholeInternet joinedHosts() {
        WholeInternet x = new WholeInternet();
        x.net(576, 1);
        x.join(x.box(false), 0);
        x.join(x.box(false), 0);
        x.listen(1, 80, 5);
        x.open(0, address(0, 1), 80);
        x.run(10);
        x.accept(1, 0);
        return x;
    }

    /** A reset makes those FREE that have the peer's LAST, and have closed. */
    private static void resetsBehindTheLast() {
        WholeInternet x = joinedHosts();
        x.close(1, 1);
        x.run(3);
        CHECKS.due("alone", x.door(0, 0, 0), 7);
        x.fates(0, 1, 1);
        x.close(0, 0);
        x.run(1);
        CHECKS.due("ending, and its LAST is lost", x.door(0, 0, 0), 9);
        x.abort(1, 1);
        x.run(2);
        CHECKS.due("free", x.door(0, 0, 0), 0);
        CHECKS.due("over", x.read(0, 0), -2);

        WholeInternet y = joinedHosts();
        y.close(1, 1);
        y.run(3);
        y.abort(1, 1);
        y.run(2);
        CHECKS.due("one that is alone is aborted", y.door(0, 0, 0), 11);
        CHECKS.due("over", y.read(0, 0), -2);

        WholeInternet z = joinedHosts();
        z.close(0, 0);
        z.run(3);
        z.close(1, 1);
        z.run(1);
        z.fates(0, 1, 1);
        z.run(1);
        CHECKS.due("quiet", z.door(0, 0, 0), 10);
        CHECKS.due("its thanks is lost", z.door(1, 1, 0), 9);
        z.abort(1, 1);
        z.run(2);
        CHECKS.due("free", z.door(0, 0, 0), 0);
    }

    private static void quietOnesAbortSilently() {
        WholeInternet x = joinedHosts();
        x.close(0, 0);
        x.run(3);
        x.close(1, 1);
        x.run(5);
        CHECKS.due("quiet", x.door(0, 0, 0), 10);
        int made = x.count(0, 2);
        x.abort(0, 0);
        x.run(5);
        CHECKS.due("aborted", x.door(0, 0, 0), 11);
        CHECKS.due("without a reset", x.count(0, 2), made);
    }

    private static void newEndsAreNotDrained() {
        WholeInternet x = joinedHosts();
        x.drain(1, 1, true);
        x.abort(1, 1);
        x.run(3);
        x.close(1, 1);
        x.open(0, address(0, 1), 80);
        x.run(5);
        x.fill(0, 1, 1, 1, 10);
        x.run(5);
        CHECKS.due("through the same door", x.door(1, 1, 0), 4);
        CHECKS.due("it waits", x.door(1, 1, 4), 10);
        CHECKS.due("drained()", x.drained(1, 1), 1);
    }

    /** A reset and behind it, in the same tick, a further OPEN: the same door listens, and answers again. */
    private static void listeningAgain() {
        WholeInternet x = new WholeInternet();
        x.net(576, 20);
        x.net(576, 16);
        x.box(true);
        x.join(0, 0);
        x.join(0, 1);
        x.join(x.box(false), 0);
        x.join(x.box(false), 1);
        x.listen(2, 80, 5);
        // the router and the hosts know one another
        x.open(1, address(1, 1), 80);
        runTo(x, 604);
        x.abort(1, 0);
        x.run(200);
        x.close(1, 0);
        int start = 805;
        CHECKS.due("time()", x.time(), start - 1);
        CHECKS.due("no end", x.door(2, 1, 0), 12);
        x.open(1, address(1, 1), 80);
        runTo(x, start + 36);
        CHECKS.due("answering", x.door(2, 1, 0), 3);
        runTo(x, start + 59);
        CHECKS.due("fates", x.fates(0, 3, 1), 1);
        x.run(1);
        x.close(1, 0);
        x.close(1, 0);
        runTo(x, start + 91);
        CHECKS.due("fates", x.fates(1, 3, 1), 1);
        runTo(x, start + 155);
        CHECKS.due("still answering", x.door(2, 1, 0), 3);
        int made = x.count(2, 2);
        x.run(1);
        CHECKS.due("answering again", x.door(2, 1, 0), 3);
        CHECKS.due("its OPEN is sent again", x.count(2, 2) - made, 1);
        CHECKS.due("no further door", x.door(2, 2, 0), 12);
        runTo(x, start + 300);
        CHECKS.due("reset, and free in the end", x.door(2, 1, 0), 12);
    }

    /** An asking end takes an OPEN of an end that is gone: the new one, which answers too, resets it. */
    private static void answeringAnOldOpen() {
        WholeInternet x = new WholeInternet();
        x.net(576, 20);
        x.join(x.box(false), 0);
        x.join(x.box(false), 0);
        x.listen(1, 80, 5);
        x.open(0, address(0, 1), 80);
        runTo(x, 300);
        x.abort(0, 0);
        runTo(x, 400);
        x.close(0, 0);
        x.open(0, address(0, 1), 80);
        runTo(x, 420);
        x.fates(0, 3 | 1 << 2, 2);
        x.run(1);
        CHECKS.due("answering, and its OPEN is late", x.door(1, 1, 0), 3);
        x.close(1, 0);
        x.run(1);
        CHECKS.due("aborted, its reset is lost, its door is free", x.door(1, 1, 0), 12);
        x.listen(1, 80, 5);
        runTo(x, 481);
        CHECKS.due("asked again, answering", x.door(1, 1, 0), 3);
        runTo(x, 500);
        CHECKS.due("asking", x.door(0, 0, 0), 2);
        x.run(1);
        CHECKS.due("on, with the one that is gone", x.door(0, 0, 0), 4);
        runTo(x, 540);
        CHECKS.due("still on", x.door(0, 0, 0), 4);
        CHECKS.due("answering", x.door(1, 1, 0), 3);
        x.run(1);
        CHECKS.due("reset", x.door(0, 0, 0), 11);
    }

    private static void notCalm() {
        WholeInternet x = new WholeInternet();
        x.net(576, 1);
        x.join(x.box(true), 0);
        CHECKS.due("overdue(): no way yet, but not calm for long", x.overdue(), 0);
        x.run(1);
        x.link(0, false);
        CHECKS.due("overdue(): a way too much, but not calm for long", x.overdue(), 0);
    }
}
