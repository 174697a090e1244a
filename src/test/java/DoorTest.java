/** Promises 9 to 18 and 27 to 29: what an owner does with the doors of two hosts on a net of delay 1. */
public final class DoorTest {
    private static final Checks CHECKS = new Checks("DoorTest");
    private static final int A = (10 << 24) + 1;
    private static final int B = (10 << 24) + 2;

    public static void main(String[] args) {
        listening();
        opening();
        accepting();
        writing();
        filling();
        reading();
        readingTheEnd();
        closing();
        closingListeners();
        aborting();
        lookingAtDoors();
        draining();
        straying();
        CHECKS.end();
    }

    private static WholeInternet twoHosts() {
        WholeInternet x = new WholeInternet();
        x.net(1500, 1);
        x.join(x.box(false), 0);
        x.join(x.box(false), 0);
        return x;
    }

    /** Box 0's door 0 is ON with box 1's door 1, which came through the listening door 0, since tick 6. */
    private static WholeInternet joinedHosts() {
        WholeInternet x = twoHosts();
        x.listen(1, 80, 5);
        x.open(0, B, 80);
        x.run(10);
        CHECKS.due("accept()", x.accept(1, 0), 1);
        return x;
    }

    private static void listening() {
        WholeInternet x = new WholeInternet();
        x.box(false);
        CHECKS.badArgument("listen(0, 0, 1)", () -> x.listen(0, 0, 1));
        CHECKS.badArgument("listen(0, 50000, 1)", () -> x.listen(0, 50000, 1));
        CHECKS.badArgument("listen(0, 1, 0)", () -> x.listen(0, 1, 0));
        CHECKS.badArgument("listen(0, 1, 6)", () -> x.listen(0, 1, 6));
        CHECKS.due("listen() without a port", x.listen(0, 1, 1), 0);
        CHECKS.due("listen()", x.listen(0, 49999, 5), 1);
        CHECKS.badState("listen() where one listens", () -> x.listen(0, 1, 1));
        for (int d = 2; d < 6; d++) CHECKS.due("listen()", x.listen(0, d, 1), d);
        CHECKS.badState("listen() without a free door", () -> x.listen(0, 7, 1));
        CHECKS.badArgument("listen() with a wrong backlog, and no door", () -> x.listen(0, 7, 6));
        x.close(0, 3);
        CHECKS.due("the least free door", x.listen(0, 3, 1), 3);

        // backlog 1: of two openings in the same tick one gets an end, the other one asks again
        WholeInternet y = twoHosts();
        y.listen(1, 80, 1);
        y.open(0, B, 80);
        y.open(0, B, 80);
        y.run(4);
        CHECKS.due("the first one answers", y.door(1, 1, 0), 3);
        CHECKS.due("the second one counts for nothing", y.door(1, 2, 0), 12);
        y.run(57);
        CHECKS.due("it asks again 60 ticks later", y.door(0, 1, 0), 2);
        y.run(1);
        CHECKS.due("and comes through the next free door", y.door(1, 2, 0), 3);
        y.run(2);
        CHECKS.due("it is on", y.door(0, 1, 0), 4);
        CHECKS.due("and so is the other one", y.door(1, 2, 0), 4);

        // no free door: nothing is answered
        WholeInternet z = twoHosts();
        for (int d = 0; d < 6; d++) z.listen(1, d + 1, 5);
        z.open(0, B, 1);
        z.run(20);
        CHECKS.due("it goes on asking", z.door(0, 0, 0), 2);
    }

    private static void opening() {
        WholeInternet x = twoHosts();
        int alone = x.box(false);
        CHECKS.badArgument("open(.., 0)", () -> x.open(0, B, 0));
        CHECKS.badArgument("open(.., 65536)", () -> x.open(0, B, 65536));
        CHECKS.badArgument("open its own address", () -> x.open(0, A, 80));
        CHECKS.badState("open() without a port", () -> x.open(alone, A, 80));
        CHECKS.due("open()", x.open(0, B, 80), 0);
        CHECKS.due("its port number", x.door(0, 0, 1), 50000);
        CHECKS.due("the peer's", x.door(0, 0, 2), 80);
        CHECKS.due("the peer's address", x.door(0, 0, 3), B);
        CHECKS.due("asking", x.door(0, 0, 0), 2);
        CHECKS.due("nothing is sent in the call", x.underWay(), 0);
        CHECKS.due("open()", x.open(0, B, 65535), 1);
        CHECKS.due("its port number", x.door(0, 1, 1), 50001);
        x.close(0, 1);
        x.close(0, 1);
        CHECKS.due("open() by the least free door", x.open(0, B, 1), 1);
        CHECKS.due("never the same port number", x.door(0, 1, 1), 50002);
        for (int d = 2; d < 6; d++) x.open(0, B, 1);
        CHECKS.badState("open() without a free door", () -> x.open(0, B, 1));
        CHECKS.badArgument("open(.., 0) without a free door", () -> x.open(0, B, 0));
        x.run(4);
        CHECKS.due("nobody listens there", x.door(0, 0, 0), 2);
        x.run(1);
        CHECKS.due("a reset came", x.door(0, 0, 0), 11);
    }

    private static void accepting() {
        WholeInternet x = twoHosts();
        CHECKS.badState("accept() at a free door", () -> x.accept(1, 0));
        x.listen(1, 80, 5);
        x.listen(1, 81, 5);
        CHECKS.due("accept()", x.accept(1, 0), -1);
        x.open(0, B, 81);
        x.open(0, B, 80);
        x.run(3);
        CHECKS.due("nothing came", x.door(1, 2, 0), 12);
        x.run(1);
        CHECKS.due("answering", x.door(1, 2, 0), 3);
        CHECKS.due("accept() of one that answers", x.accept(1, 1), -1);
        x.run(1);
        CHECKS.due("the asking one is on", x.door(0, 0, 0), 4);
        CHECKS.due("the answering one is not", x.door(1, 2, 0), 3);
        x.run(1);
        CHECKS.due("now it is", x.door(1, 2, 0), 4);
        CHECKS.due("accept() through door 0", x.accept(1, 0), 3);
        CHECKS.due("accept() through door 1", x.accept(1, 1), 2);
        CHECKS.due("once only", x.accept(1, 0), -1);
        CHECKS.badState("accept() at a door with an end", () -> x.accept(1, 2));
        CHECKS.due("its own port number", x.door(1, 2, 1), 81);
        CHECKS.due("its peer's", x.door(1, 2, 2), 50000);
        CHECKS.due("its peer's address", x.door(1, 2, 3), A);
    }

    private static void writing() {
        WholeInternet x = joinedHosts();
        CHECKS.badArgument("write(.., 0)", () -> x.write(0, 0, 0, 0));
        CHECKS.badArgument("write(.., 9)", () -> x.write(0, 0, 0, 9));
        CHECKS.badState("write() to a free door", () -> x.write(0, 1, 0, 1));
        CHECKS.badState("write() to one that listens", () -> x.write(1, 0, 0, 1));
        CHECKS.badArgument("write(.., 9) to a free door", () -> x.write(0, 1, 0, 9));
        CHECKS.due("write()", x.write(0, 0, 0x0102030405060708L, 8), 8);
        CHECKS.due("write()", x.write(0, 0, 0x11223344556677ffL, 2), 2);
        x.run(2);
        for (int i = 1; i <= 8; i++) CHECKS.due("read()", x.read(1, 1), i);
        CHECKS.due("read()", x.read(1, 1), 0x77);
        CHECKS.due("read()", x.read(1, 1), 0xff);
        x.run(2);
        x.fill(0, 0, 0, 0, 2045);
        CHECKS.due("write() as far as there is room", x.write(0, 0, 0x0102030405060708L, 8), 3);
        CHECKS.due("write() without room", x.write(0, 0, 1, 1), 0);
        x.run(4);
        x.readAll(1, 1, 2045);
        for (int i = 1; i <= 3; i++) CHECKS.due("the first ones were taken", x.read(1, 1), i);
        x.close(0, 0);
        CHECKS.badState("write() when it has closed", () -> x.write(0, 0, 1, 1));
        CHECKS.due("the other one may write", x.write(1, 1, 7, 1), 1);
        x.run(3);
        CHECKS.due("the other one may write when the peer has closed", x.write(1, 1, 8, 1), 1);
        CHECKS.due("strays()", x.strays(), 0);
    }

    private static void filling() {
        WholeInternet x = joinedHosts();
        CHECKS.badArgument("fill(.., 0)", () -> x.fill(0, 0, 1, 1, 0));
        CHECKS.badArgument("fill(.., 2049)", () -> x.fill(0, 0, 1, 1, 2049));
        CHECKS.badState("fill() of a free door", () -> x.fill(0, 1, 1, 1, 1));
        CHECKS.badState("fill() of one that listens", () -> x.fill(1, 0, 1, 1, 1));
        CHECKS.due("fill()", x.fill(0, 0, 250, 3, 4), 4);
        CHECKS.due("fill()", x.fill(0, 0, -1, -255, 2), 2);
        x.run(2);
        int[] due = {250, 253, 0, 3, 255, 0};
        for (int value : due) CHECKS.due("read()", x.read(1, 1), value);
        x.run(1);
        CHECKS.due("fill(.., 2048)", x.fill(0, 0, 1, 1, 2048), 2048);
        CHECKS.due("fill() without room", x.fill(0, 0, 1, 1, 1), 0);
        CHECKS.due("strays()", x.strays(), 0);
    }

    private static int told(int seed, int step, int n) {
        int told = 1;
        for (int i = 0; i < n; i++) told = 31 * told + (seed + i * step & 255);
        return told;
    }

    private static void reading() {
        WholeInternet x = joinedHosts();
        CHECKS.badState("read() at a free door", () -> x.read(0, 1));
        CHECKS.badState("read() at one that listens", () -> x.read(1, 0));
        CHECKS.due("read()", x.read(1, 1), -1);
        CHECKS.badArgument("readAll(.., 0)", () -> x.readAll(1, 1, 0));
        CHECKS.badArgument("readAll(.., 2049)", () -> x.readAll(1, 1, 2049));
        CHECKS.badArgument("readAll(.., 0) at a free door", () -> x.readAll(0, 1, 0));
        CHECKS.badState("readAll() at a free door", () -> x.readAll(0, 1, 1));
        CHECKS.due("readAll() of nothing", x.readAll(1, 1, 10), 1);
        x.fill(0, 0, 7, 5, 100);
        x.run(2);
        CHECKS.due("readAll() of some", x.readAll(1, 1, 60), told(7, 5, 60));
        CHECKS.due("readAll() as far as there are", x.readAll(1, 1, 2048), told(7 + 300, 5, 40));
        CHECKS.due("read() of nothing", x.read(1, 1), -1);
    }

    private static void readingTheEnd() {
        WholeInternet x = joinedHosts();
        x.fill(0, 0, 9, 0, 2);
        x.close(0, 0);
        x.run(3);
        CHECKS.due("alone", x.door(1, 1, 0), 7);
        CHECKS.due("read()", x.read(1, 1), 9);
        CHECKS.due("read()", x.read(1, 1), 9);
        CHECKS.due("read() at the end", x.read(1, 1), -2);
        CHECKS.due("readAll() at the end", x.readAll(1, 1, 5), 1);
        x.abort(1, 1);
        CHECKS.due("aborted", x.door(1, 1, 0), 11);
        CHECKS.due("one that was over is so", x.read(1, 1), -2);

        WholeInternet y = joinedHosts();
        y.fill(0, 0, 9, 0, 2);
        y.run(2);
        y.abort(0, 0);
        CHECKS.badState("read() when nothing can come", () -> y.read(0, 0));
        CHECKS.badState("readAll() when nothing can come", () -> y.readAll(0, 0, 1));
        y.run(2);
        CHECKS.due("aborted by the peer", y.door(1, 1, 0), 11);
        CHECKS.due("what came can be read", y.readAll(1, 1, 1), told(9, 0, 1));
        CHECKS.due("what came can be read", y.read(1, 1), 9);
        CHECKS.badState("read() behind it", () -> y.read(1, 1));
    }

    private static void closing() {
        WholeInternet x = joinedHosts();
        CHECKS.badState("close() of a free door", () -> x.close(0, 1));
        x.close(0, 0);
        CHECKS.due("leaving", x.door(0, 0, 0), 5);
        CHECKS.badState("close() again", () -> x.close(0, 0));
        x.run(1);
        CHECKS.due("LAST is under way", x.door(0, 0, 0), 5);
        x.run(1);
        CHECKS.due("the peer is alone", x.door(1, 1, 0), 7);
        x.run(1);
        CHECKS.due("left", x.door(0, 0, 0), 6);
        x.close(1, 1);
        CHECKS.due("ending", x.door(1, 1, 0), 9);
        CHECKS.badState("close() of one that ends", () -> x.close(1, 1));
        x.run(2);
        CHECKS.due("quiet", x.door(0, 0, 0), 10);
        CHECKS.badState("close() of a quiet one", () -> x.close(0, 0));
        x.run(1);
        CHECKS.due("free", x.door(1, 1, 0), 0);
        CHECKS.due("the door keeps its port number", x.door(1, 1, 1), 80);
        x.close(1, 1);
        CHECKS.due("the door is free", x.door(1, 1, 0), 12);
        CHECKS.badState("close() of a free door", () -> x.close(1, 1));
        // quiet since tick 15, for 2000 ticks
        x.run(1000);
        x.run(1000 - 2);
        CHECKS.due("time()", x.time(), 2014);
        CHECKS.due("still quiet", x.door(0, 0, 0), 10);
        x.run(1);
        CHECKS.due("no more", x.door(0, 0, 0), 0);
        CHECKS.due("over, also now", x.read(0, 0), -2);
        x.close(0, 0);
        CHECKS.due("the door is free", x.door(0, 0, 0), 12);

        WholeInternet y = twoHosts();
        y.open(0, B, 80);
        y.close(0, 0);
        CHECKS.due("asking, then closed: the end is free, and stays", y.door(0, 0, 0), 0);
        CHECKS.badState("write() to it", () -> y.write(0, 0, 1, 1));
        CHECKS.badState("abort() of it", () -> y.abort(0, 0));
        y.run(3);
        CHECKS.due("it sends nothing", y.count(0, 0), 0);
        y.close(0, 0);
        CHECKS.due("closed again: the door is free", y.door(0, 0, 0), 12);

        // an answering one goes on, and leaves when it is on
        WholeInternet z = twoHosts();
        z.listen(1, 80, 1);
        z.open(0, B, 80);
        z.run(4);
        z.close(1, 1);
        CHECKS.due("answering, and has closed", z.door(1, 1, 0), 3);
        CHECKS.badState("close() again", () -> z.close(1, 1));
        CHECKS.badState("write()", () -> z.write(1, 1, 1, 1));
        z.run(2);
        CHECKS.due("leaving", z.door(1, 1, 0), 5);
        z.run(1);
        CHECKS.due("the peer is alone", z.door(0, 0, 0), 7);
        CHECKS.due("accept() of one that leaves", z.accept(1, 0), 1);
    }

    private static void closingListeners() {
        WholeInternet x = twoHosts();
        x.listen(1, 80, 5);
        x.open(0, B, 80);
        x.run(10);
        CHECKS.due("accept()", x.accept(1, 0), 1);
        x.open(0, B, 80);
        x.run(10);
        x.open(0, B, 80);
        x.run(2);
        CHECKS.due("one is told", x.door(1, 1, 0), 4);
        CHECKS.due("one is on", x.door(1, 2, 0), 4);
        CHECKS.due("one answers", x.door(1, 3, 0), 3);
        x.close(1, 0);
        CHECKS.due("the listening door is free", x.door(1, 0, 0), 12);
        CHECKS.due("the told one goes on", x.door(1, 1, 0), 4);
        CHECKS.due("the other one is aborted", x.door(1, 2, 0), 11);
        CHECKS.due("the answering one is aborted", x.door(1, 3, 0), 11);
        CHECKS.due("listen() again, by the least door", x.listen(1, 80, 1), 0);
        x.run(1);
        CHECKS.due("free behind its turn", x.door(1, 2, 0), 12);
        CHECKS.due("free behind its turn", x.door(1, 3, 0), 12);
        x.run(1);
        CHECKS.due("the peer was reset", x.door(0, 1, 0), 11);
        CHECKS.due("the peer was reset", x.door(0, 2, 0), 11);
        CHECKS.due("the told one's peer was not", x.door(0, 0, 0), 4);
        CHECKS.due("nothing came through the new one", x.accept(1, 0), -1);

        // what is aborted and was not told yet is free behind its turn, otherwise it stays
        WholeInternet y = joinedHosts();
        y.open(0, B, 80);
        y.run(10);
        y.abort(1, 1);
        y.abort(1, 2);
        y.run(1);
        CHECKS.due("told: stays", y.door(1, 1, 0), 11);
        CHECKS.due("not told: is free", y.door(1, 2, 0), 12);
    }

    private static void aborting() {
        WholeInternet x = joinedHosts();
        CHECKS.badState("abort() of a free door", () -> x.abort(0, 1));
        CHECKS.badState("abort() of one that listens", () -> x.abort(1, 0));
        x.fill(0, 0, 1, 1, 10);
        x.run(1);
        x.abort(0, 0);
        CHECKS.due("aborted", x.door(0, 0, 0), 11);
        CHECKS.due("what was not thanked for is as it was", x.door(0, 0, 6), 10);
        CHECKS.due("nothing can be written", x.door(0, 0, 5), 0);
        CHECKS.badState("abort() again", () -> x.abort(0, 0));
        CHECKS.badState("write()", () -> x.write(0, 0, 1, 1));
        x.run(1);
        CHECKS.due("the peer does not know yet", x.door(1, 1, 0), 4);
        x.run(1);
        CHECKS.due("now it does", x.door(1, 1, 0), 11);
        CHECKS.due("what came stays", x.door(1, 1, 4), 10);
        x.close(0, 0);
        CHECKS.due("the door is free", x.door(0, 0, 0), 12);

        // closing behind an abort keeps the reset from being sent
        WholeInternet y = joinedHosts();
        y.abort(0, 0);
        y.close(0, 0);
        CHECKS.due("the door is free at once", y.door(0, 0, 0), 12);
        y.run(5);
        CHECKS.due("the peer heard nothing", y.door(1, 1, 0), 4);

        WholeInternet z = twoHosts();
        z.open(0, B, 80);
        z.abort(0, 0);
        z.run(3);
        CHECKS.due("one that asks sends no reset", z.count(0, 0), 0);
        CHECKS.due("it is aborted", z.door(0, 0, 0), 11);
    }

    private static void lookingAtDoors() {
        WholeInternet x = twoHosts();
        for (int what = 0; what <= 6; what++) CHECKS.due("a free door", x.door(0, 0, what), what == 0 ? 12 : 0);
        x.listen(1, 80, 5);
        int[] listening = {1, 80, 0, 0, 0, 0, 0};
        for (int what = 0; what <= 6; what++) CHECKS.due("one that listens", x.door(1, 0, what), listening[what]);
        x.open(0, B, 80);
        x.fill(0, 0, 1, 1, 48);
        int[] asking = {2, 50000, 80, B, 0, 2000, 48};
        for (int what = 0; what <= 6; what++) CHECKS.due("one that asks", x.door(0, 0, what), asking[what]);
        x.run(10);
        int[] on = {4, 80, 50000, A, 48, 2048, 0};
        for (int what = 0; what <= 6; what++) CHECKS.due("one that is on", x.door(1, 1, what), on[what]);
        x.close(1, 1);
        CHECKS.due("one that has closed", x.door(1, 1, 5), 0);
        x.close(1, 0);
        CHECKS.due("free again", x.door(1, 0, 1), 0);
    }

    private static void draining() {
        WholeInternet x = joinedHosts();
        CHECKS.badState("drain() of a free door", () -> x.drain(0, 1, true));
        CHECKS.badState("drain() of one that listens", () -> x.drain(1, 0, true));
        CHECKS.due("drained() at first", x.drained(1, 1), 1);
        CHECKS.due("drained() of one that listens", x.drained(1, 0), 1);
        x.drain(1, 1, true);
        x.fill(0, 0, 3, 7, 500);
        x.run(2);
        CHECKS.due("drained()", x.drained(1, 1), told(3, 7, 500));
        CHECKS.due("all is read", x.door(1, 1, 4), 0);
        x.drain(1, 1, false);
        x.fill(0, 0, 3 + 3500, 7, 20);
        x.run(3);
        CHECKS.due("no more", x.drained(1, 1), told(3, 7, 500));
        CHECKS.due("it waits", x.door(1, 1, 4), 20);
        x.drain(1, 1, true);
        CHECKS.due("not in the call", x.door(1, 1, 4), 20);
        x.run(1);
        CHECKS.due("drained()", x.drained(1, 1), told(3, 7, 520));
        // the end is aborted in the tick in which bytes come; its door tells on when it is free
        x.fill(0, 0, 3 + 3640, 7, 5);
        x.run(1);
        x.abort(0, 0);
        x.run(3);
        CHECKS.due("aborted", x.door(1, 1, 0), 11);
        CHECKS.due("drained()", x.drained(1, 1), told(3, 7, 525));
        x.close(1, 1);
        CHECKS.due("drained() of a free door", x.drained(1, 1), told(3, 7, 525));
        x.listen(1, 90, 1);
        CHECKS.due("drained() of one that listens", x.drained(1, 1), told(3, 7, 525));
        x.close(1, 1);
        CHECKS.due("open()", x.open(1, A, 5), 1);
        CHECKS.due("drained() of a new end", x.drained(1, 1), 1);

        // a door that no accept() told is drained before it is free
        WholeInternet y = twoHosts();
        y.listen(1, 80, 5);
        y.open(0, B, 80);
        y.run(6);
        y.fill(0, 0, 1, 1, 10);
        y.run(2);
        y.drain(1, 1, true);
        y.close(1, 0);
        y.run(1);
        CHECKS.due("the door is free", y.door(1, 1, 0), 12);
        CHECKS.due("drained() before", y.drained(1, 1), told(1, 1, 10));
    }

    private static void straying() {
        WholeInternet x = joinedHosts();
        x.drain(1, 1, true);
        for (int i = 0; i < 40; i++) {
            if (i % 4 == 0) x.fates(0, 0x123456789abcdefL * (i + 3), 12);
            x.fill(0, 0, 17 * i, i, 700);
            x.write(1, 1, 0x5555aaaa1234L * i, 7);
            x.run(23);
            if (i % 3 == 0) x.readAll(0, 0, 5);
        }
        x.run(1000);
        x.readAll(0, 0, 2048);
        CHECKS.due("strays()", x.strays(), 0);
        CHECKS.due("all is thanked for", x.door(0, 0, 6) + x.door(1, 1, 6), 0);
    }
}
