/** Promises 1 to 8, and the wrong inputs of all calls. */
public final class FaceTest {
    private static final Checks CHECKS = new Checks("FaceTest");

    public static void main(String[] args) {
        constants();
        newObject();
        boxes();
        nets();
        joins();
        costs();
        links();
        fates();
        runs();
        noSuchThings();
        strangeNumbers();
        CHECKS.end();
    }

    private static void constants() {
        CHECKS.due("NONE", WholeInternet.NONE, -1);
        CHECKS.due("OVER", WholeInternet.OVER, -2);
        CHECKS.due("SPARE", WholeInternet.SPARE, 12);
    }

    private static void newObject() {
        WholeInternet x = new WholeInternet();
        CHECKS.due("time()", x.time(), 0);
        CHECKS.due("underWay()", x.underWay(), 0);
        CHECKS.due("strays()", x.strays(), 0);
        CHECKS.due("overdue()", x.overdue(), 0);
        CHECKS.badArgument("count(0, 0) without nets", () -> x.count(0, 0));
        CHECKS.badArgument("count(0, 2) without boxes", () -> x.count(0, 2));
    }

    private static void boxes() {
        WholeInternet x = new WholeInternet();
        for (int i = 0; i < 16; i++) CHECKS.due("box()", x.box(i % 2 == 0), i);
        CHECKS.badState("the 17th box()", () -> x.box(true));
        CHECKS.badState("the 17th box()", () -> x.box(false));
        CHECKS.due("count(15, 2)", x.count(15, 2), 0);
        CHECKS.badArgument("count(16, 2)", () -> x.count(16, 2));
    }

    private static void nets() {
        WholeInternet x = new WholeInternet();
        CHECKS.badArgument("net(99, 1)", () -> x.net(99, 1));
        CHECKS.badArgument("net(1501, 1)", () -> x.net(1501, 1));
        CHECKS.badArgument("net(100, 0)", () -> x.net(100, 0));
        CHECKS.badArgument("net(100, 51)", () -> x.net(100, 51));
        CHECKS.due("net(100, 1)", x.net(100, 1), 0);
        CHECKS.due("net(1500, 50)", x.net(1500, 50), 1);
        for (int i = 2; i < 24; i++) CHECKS.due("net()", x.net(576, 3), i);
        CHECKS.badState("the 25th net()", () -> x.net(576, 3));
        CHECKS.badArgument("the 25th net(99, 3)", () -> x.net(99, 3));
        CHECKS.due("link(23, true): it is up at first", x.link(23, true), false);
    }

    private static void joins() {
        WholeInternet x = new WholeInternet();
        for (int i = 0; i < 8; i++) x.net(576, 1);
        int router = x.box(true);
        int host = x.box(false);
        CHECKS.badArgument("join(-1, 0)", () -> x.join(-1, 0));
        CHECKS.badArgument("join(2, 0)", () -> x.join(2, 0));
        CHECKS.badArgument("join(0, -1)", () -> x.join(router, -1));
        CHECKS.badArgument("join(0, 8)", () -> x.join(router, 8));
        CHECKS.due("join(0, 5)", x.join(router, 5), 10 * (1 << 24) + 5 * (1 << 16) + 1);
        CHECKS.badState("join(0, 5) again", () -> x.join(router, 5));
        CHECKS.due("join(1, 5)", x.join(host, 5), 10 * (1 << 24) + 5 * (1 << 16) + 2);
        CHECKS.badState("join(1, 4): a host has one port", () -> x.join(host, 4));
        for (int n = 0; n < 5; n++) x.join(router, n);
        CHECKS.badState("join(0, 6): a router has six ports", () -> x.join(router, 6));
        CHECKS.badArgument("join(0, 8) with no port more", () -> x.join(router, 8));
        for (int i = 2; i < 8; i++) CHECKS.due("join(.., 5)", x.join(x.box(false), 5), (10 << 24) + (5 << 16) + i + 1);
        int ninth = x.box(false);
        CHECKS.badState("the 9th station", () -> x.join(ninth, 5));
        CHECKS.due("join(ninth, 6)", x.join(ninth, 6), (10 << 24) + (6 << 16) + 1);
    }

    private static void costs() {
        WholeInternet x = new WholeInternet();
        x.net(576, 1);
        x.net(576, 1);
        int router = x.box(true);
        int host = x.box(false);
        x.join(router, 0);
        x.join(host, 0);
        CHECKS.badArgument("cost of a host", () -> x.cost(host, 0, 5));
        CHECKS.badArgument("cost off the net", () -> x.cost(router, 1, 5));
        CHECKS.badArgument("cost on no net", () -> x.cost(router, 2, 5));
        CHECKS.badArgument("cost 0", () -> x.cost(router, 0, 0));
        CHECKS.badArgument("cost 1001", () -> x.cost(router, 0, 1001));
        CHECKS.due("cost(.., 1)", x.cost(router, 0, 1), 10);
        CHECKS.due("cost(.., 1000)", x.cost(router, 0, 1000), 1);
        CHECKS.due("shouldCost()", x.shouldCost(router, 0), 1000);
        CHECKS.due("cost(.., 7)", x.cost(router, 0, 7), 1000);
        CHECKS.due("way() before any turn", x.way(router, 0, 0), -1);
        x.run(1);
        CHECKS.due("way() behind a turn", x.way(router, 0, 0), 7);
        x.cost(router, 0, 9);
        CHECKS.due("way() holds until the next turn", x.way(router, 0, 0), 7);
        x.run(1);
        CHECKS.due("way() behind the next turn", x.way(router, 0, 0), 9);
    }

    private static void links() {
        WholeInternet x = new WholeInternet();
        x.net(576, 4);
        x.join(x.box(false), 0);
        int there = x.join(x.box(false), 0);
        CHECKS.badArgument("link(-1, true)", () -> x.link(-1, true));
        CHECKS.badArgument("link(1, true)", () -> x.link(1, true));
        CHECKS.due("link(0, true)", x.link(0, true), false);
        x.open(0, there, 1);
        x.run(1);
        CHECKS.due("underWay()", x.underWay(), 1);
        CHECKS.due("link(0, false)", x.link(0, false), true);
        CHECKS.due("underWay(): all on it are lost", x.underWay(), 0);
        CHECKS.due("link(0, false) again", x.link(0, false), false);
        x.run(20);
        CHECKS.due("what is put on it is lost", x.underWay(), 0);
        CHECKS.due("but counts as put", x.count(0, 0), 2);
        CHECKS.due("link(0, true)", x.link(0, true), true);
        x.run(19);
        CHECKS.due("nothing came", x.count(0, 1), 0);
        x.run(5);
        CHECKS.due("the third asking came", x.count(0, 1), 1);
    }

    private static void fates() {
        WholeInternet x = new WholeInternet();
        x.net(576, 4);
        CHECKS.badArgument("fates(1, ..)", () -> x.fates(1, 0, 1));
        CHECKS.badArgument("fates(-1, ..)", () -> x.fates(-1, 0, 1));
        CHECKS.badArgument("fates(.., 0)", () -> x.fates(0, 0, 0));
        CHECKS.badArgument("fates(.., 33)", () -> x.fates(0, 0, 33));
        CHECKS.due("fates(.., 32)", x.fates(0, 0, 32), 32);
        CHECKS.due("fates(.., 31)", x.fates(0, 0, 31), 63);
        CHECKS.badState("fates(.., 2)", () -> x.fates(0, 0, 2));
        CHECKS.badArgument("fates(.., 33) of a full schedule", () -> x.fates(0, 0, 33));
        CHECKS.due("fates(.., 1)", x.fates(0, 0, 1), 64);

        // the asking frames of a host, 20 ticks from one another, meet the fates 1, 2 and 3
        WholeInternet y = new WholeInternet();
        y.net(576, 4);
        y.join(y.box(false), 0);
        y.box(false);
        CHECKS.due("fates()", y.fates(0, 1 | 2 << 2 | 3 << 4, 3), 3);
        y.open(0, (10 << 24) + 2, 1);
        y.run(1);
        CHECKS.due("fate 1: lost", y.underWay(), 0);
        CHECKS.due("fate 1: put", y.count(0, 0), 1);
        CHECKS.due("fates left", y.fates(0, 0, 1), 3);
        y.run(20);
        CHECKS.due("fate 2: two under way", y.underWay(), 2);
        y.join(1, 0);
        y.run(3);
        CHECKS.due("fate 2: not yet", y.count(0, 1), 0);
        y.run(1);
        CHECKS.due("fate 2: the delay is over, and the answer is put", y.underWay(), 2);
        CHECKS.due("fate 2: arrived", y.count(0, 1), 1);

        WholeInternet z = new WholeInternet();
        z.net(576, 4);
        z.join(z.box(false), 0);
        z.fates(0, 3, 1);
        z.open(0, (10 << 24) + 2, 1);
        z.run(16);
        z.join(z.box(false), 0);
        CHECKS.due("fate 3: not yet", z.count(0, 1), 0);
        CHECKS.due("fate 3: one under way", z.underWay(), 1);
        z.run(1);
        CHECKS.due("fate 3: four times the delay, and one that joined meanwhile", z.count(0, 1), 1);
    }

    private static void runs() {
        WholeInternet x = new WholeInternet();
        CHECKS.badArgument("run(0)", () -> x.run(0));
        CHECKS.badArgument("run(1001)", () -> x.run(1001));
        CHECKS.badArgument("run(-1)", () -> x.run(-1));
        CHECKS.due("run(1)", x.run(1), 1);
        CHECKS.due("run(999)", x.run(999), 1000);
        for (int i = 2; i < 400; i++) x.run(1000);
        CHECKS.due("run(999)", x.run(999), 399999);
        CHECKS.badState("run(2)", () -> x.run(2));
        CHECKS.badArgument("run(1001) at the end", () -> x.run(1001));
        CHECKS.due("time()", x.time(), 399999);
        CHECKS.due("run(1)", x.run(1), 400000);
        CHECKS.badState("run(1)", () -> x.run(1));
    }

    private static void noSuchThings() {
        WholeInternet x = new WholeInternet();
        x.net(576, 1);
        int router = x.box(true);
        int host = x.box(false);
        for (int bad : new int[] {-1, 2, router, Integer.MIN_VALUE, Integer.MAX_VALUE}) {
            CHECKS.badArgument("listen", () -> x.listen(bad, 1, 1));
            CHECKS.badArgument("open", () -> x.open(bad, 1, 1));
            CHECKS.badArgument("accept", () -> x.accept(bad, 0));
            CHECKS.badArgument("write", () -> x.write(bad, 0, 0, 1));
            CHECKS.badArgument("fill", () -> x.fill(bad, 0, 0, 0, 1));
            CHECKS.badArgument("read", () -> x.read(bad, 0));
            CHECKS.badArgument("readAll", () -> x.readAll(bad, 0, 1));
            CHECKS.badArgument("close", () -> x.close(bad, 0));
            CHECKS.badArgument("abort", () -> x.abort(bad, 0));
            CHECKS.badArgument("door", () -> x.door(bad, 0, 0));
            CHECKS.badArgument("drain", () -> x.drain(bad, 0, true));
            CHECKS.badArgument("drained", () -> x.drained(bad, 0));
        }
        for (int bad : new int[] {-1, 6, Integer.MIN_VALUE, Integer.MAX_VALUE}) {
            CHECKS.badArgument("accept", () -> x.accept(host, bad));
            CHECKS.badArgument("write", () -> x.write(host, bad, 0, 1));
            CHECKS.badArgument("fill", () -> x.fill(host, bad, 0, 0, 1));
            CHECKS.badArgument("read", () -> x.read(host, bad));
            CHECKS.badArgument("readAll", () -> x.readAll(host, bad, 1));
            CHECKS.badArgument("close", () -> x.close(host, bad));
            CHECKS.badArgument("abort", () -> x.abort(host, bad));
            CHECKS.badArgument("door", () -> x.door(host, bad, 0));
            CHECKS.badArgument("drain", () -> x.drain(host, bad, true));
            CHECKS.badArgument("drained", () -> x.drained(host, bad));
        }
        for (int bad : new int[] {-1, 2, host, Integer.MIN_VALUE, Integer.MAX_VALUE}) {
            CHECKS.badArgument("way", () -> x.way(bad, 0, 0));
            CHECKS.badArgument("friends", () -> x.friends(bad, router, 0));
            CHECKS.badArgument("friends", () -> x.friends(router, bad, 0));
            CHECKS.badArgument("advert", () -> x.advert(bad, router));
            CHECKS.badArgument("advert", () -> x.advert(router, bad));
            CHECKS.badArgument("shouldCost", () -> x.shouldCost(bad, 0));
        }
        for (int bad : new int[] {-1, 1, Integer.MIN_VALUE, Integer.MAX_VALUE}) {
            CHECKS.badArgument("way", () -> x.way(router, bad, 0));
            CHECKS.badArgument("friends", () -> x.friends(router, router, bad));
            CHECKS.badArgument("shouldCost", () -> x.shouldCost(router, bad));
            CHECKS.badArgument("count of a net", () -> x.count(bad, 0));
            CHECKS.badArgument("count of a net", () -> x.count(bad, 1));
        }
        for (int bad : new int[] {-1, 3, Integer.MIN_VALUE, Integer.MAX_VALUE}) {
            CHECKS.badArgument("way's what", () -> x.way(router, 0, bad));
        }
        CHECKS.badArgument("door's what -1", () -> x.door(host, 0, -1));
        CHECKS.badArgument("door's what 7", () -> x.door(host, 0, 7));
        CHECKS.badArgument("count's what -1", () -> x.count(0, -1));
        CHECKS.badArgument("count's what 8", () -> x.count(0, 8));
        CHECKS.badArgument("count of box 2", () -> x.count(2, 7));
    }

    /** No argument, however strange, brings out anything but what the document names. */
    private static void strangeNumbers() {
        int[] odd = {Integer.MIN_VALUE, -65537, -1, 0, 1, 2, 5, 6, 8, 100, 2048, 65535, 65536, 167772161, Integer.MAX_VALUE};
        for (int round = 0; round < 40; round++) {
            WholeInternet x = new WholeInternet();
            java.util.Random random = new java.util.Random(round);
            x.net(576, 1);
            x.box(false);
            x.box(false);
            x.box(true);
            for (int b = 0; b < 3; b++) x.join(b, 0);
            int other = 0;
            for (int i = 0; i < 450; i++) {
                int a = odd[random.nextInt(odd.length)];
                int b = odd[random.nextInt(odd.length)];
                int c = odd[random.nextInt(odd.length)];
                int h = random.nextInt(4) == 0 ? a : random.nextInt(2);
                int d = random.nextInt(4) == 0 ? b : random.nextInt(6);
                try {
                    any(x, random.nextInt(24), new int[] {h, d, a, b, c});
                } catch (IllegalArgumentException | IllegalStateException e) {
                    // as the document has it
                } catch (RuntimeException e) {
                    System.out.println("FaceTest: " + e);
                    other++;
                }
            }
            CHECKS.due("other exceptions", other, 0);
        }
    }

    private static void any(WholeInternet x, int call, int[] v) {
        switch (call) {
            case 0: x.net(v[3], v[4]); break;
            case 1: x.join(v[2], v[3]); break;
            case 2: x.cost(v[2], v[3], v[4]); break;
            case 3: x.link(v[3], v[4] > 0); break;
            case 4: x.fates(v[3], (long) v[2] * v[4], v[4]); break;
            case 5: x.run(v[4]); break;
            case 6: x.listen(v[0], v[3], v[4]); break;
            case 7: x.open(v[0], v[2], v[4]); break;
            case 8: x.accept(v[0], v[1]); break;
            case 9: x.write(v[0], v[1], (long) v[2] * v[3], v[4]); break;
            case 10: x.fill(v[0], v[1], v[2], v[3], v[4]); break;
            case 11: x.read(v[0], v[1]); break;
            case 12: x.readAll(v[0], v[1], v[4]); break;
            case 13: x.close(v[0], v[1]); break;
            case 14: x.abort(v[0], v[1]); break;
            case 15: x.door(v[0], v[1], v[4]); break;
            case 16: x.way(v[2], v[3], v[4]); break;
            case 17: x.friends(v[2], v[3], v[4]); break;
            case 18: x.advert(v[2], v[3]); break;
            case 19: x.count(v[2], v[4]); break;
            case 20: x.shouldCost(v[2], v[3]); break;
            case 21: x.drain(v[0], v[1], v[4] > 0); break;
            case 22: x.drained(v[0], v[1]); break;
            default: x.open(v[0], (10 << 24) + 1 + v[4] % 3, 1 + v[3] % 3);
        }
    }
}
