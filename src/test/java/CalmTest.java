import java.util.ArrayList;
import java.util.List;
import java.util.Random;

/** Promises 26, 29 and 30: what must be right in any internetwork, when it was left in peace for long enough. */
public final class CalmTest {
    private static final Checks CHECKS = new Checks("CalmTest");

    public static void main(String[] args) {
        bounds();
        for (int seed = 0; seed < 60; seed++) storm(seed);
        CHECKS.end();
    }

    private static void bounds() {
        WholeInternet x = new WholeInternet();
        CHECKS.due("bound() of nothing", x.bound(), 100 + 4 + 22 + 40 * (1200 + 12));
        x.net(576, 1);
        CHECKS.due("bound() of a net", x.bound(), 100 + 4 + 22 + 40 * (1200 + 12));
        x.net(576, 7);
        x.net(576, 3);
        CHECKS.due("the greatest delay", x.bound(), 100 + 28 + 22 + 40 * (1200 + 84));
        for (int i = 0; i < 5; i++) x.box(i % 2 == 0);
        CHECKS.due("bound() of five boxes", x.bound(), 100 + 28 + 2 * (11 + 5 * 38) + 40 * (1200 + 6 * 7 * 7));
    }

    /** Everything happens to an internetwork; then it is calm, and nothing is overdue. */
    private static void storm(int seed) {
        Random random = new Random(seed);
        WholeInternet x = new WholeInternet();
        List<Integer> addresses = new ArrayList<>();
        int routers = 1 + random.nextInt(5);
        int hosts = 2 + random.nextInt(3);
        int nets = routers + 1 + random.nextInt(3);
        for (int n = 0; n < nets; n++) x.net(100 + random.nextInt(random.nextBoolean() ? 60 : 1401), 1 + random.nextInt(4));
        for (int r = 0; r < routers; r++) {
            x.box(true);
            x.join(r, r);
            x.join(r, r + 1);
        }
        for (int i = 0; i < routers; i++) tried(() -> x.join(random.nextInt(routers), random.nextInt(nets)));
        for (int h = 0; h < hosts; h++) addresses.add(x.join(x.box(false), random.nextInt(routers + 1)));
        int calls = 2 * nets + 5 * routers + 2 * hosts;
        for (; calls < 350; calls++) happen(x, random, routers, hosts, nets, addresses);
        for (int n = 0; n < nets; n++) {
            if (random.nextInt(5) != 0) x.link(n, true);
        }
        for (int h = routers; h < routers + hosts; h++) {
            for (int d = 0; d < 6; d++) drainOne(x, h, d);
        }
        int end = Math.min(x.time() + x.bound() + 5000, 400000) / 1000 * 1000;
        while (x.time() + 1000 <= end) x.run(1000);
        CHECKS.due("overdue() of storm " + seed, x.overdue(), 0);
        CHECKS.due("strays() of storm " + seed, x.strays(), 0);
        int wrong = 0;
        for (int r = 0; r < routers; r++) {
            for (int n = 0; n < nets; n++) wrong += x.way(r, n, 0) == x.shouldCost(r, n) ? 0 : 1;
        }
        CHECKS.due("ways of storm " + seed, wrong, 0);
    }

    private static void drainOne(WholeInternet x, int host, int door) {
        tried(() -> x.drain(host, door, true));
    }

    private static void tried(Runnable calling) {
        try {
            calling.run();
        } catch (IllegalStateException | IllegalArgumentException e) {
            // some of these calls can't be done
        }
    }

    private static void happen(WholeInternet x, Random random, int routers, int hosts, int nets, List<Integer> addresses) {
        int host = routers + random.nextInt(hosts);
        int door = random.nextInt(random.nextBoolean() ? 3 : 6);
        int net = random.nextInt(nets);
        int address = addresses.get(random.nextInt(hosts));
        switch (random.nextInt(20)) {
            case 0: tried(() -> x.listen(host, 1 + random.nextInt(2), 1 + random.nextInt(5))); break;
            case 1: case 2: tried(() -> x.open(host, address, random.nextInt(9) == 0 ? 50000 : 1)); break;
            case 3: case 4: tried(() -> x.accept(host, door)); break;
            case 5: case 6: case 7: tried(() -> x.fill(host, door, random.nextInt(), random.nextInt(), 1 + random.nextInt(2048))); break;
            case 8: tried(() -> x.write(host, door, random.nextLong(), 1 + random.nextInt(8))); break;
            case 9: tried(() -> x.readAll(host, door, 1 + random.nextInt(2048))); break;
            case 10: tried(() -> x.close(host, door)); break;
            case 11: tried(() -> x.drain(host, door, random.nextInt(4) != 0)); break;
            case 12: tried(() -> x.link(net, random.nextInt(3) != 0)); break;
            case 13: tried(() -> x.fates(net, random.nextLong() & random.nextLong(), 1 + random.nextInt(32))); break;
            case 14: tried(() -> x.cost(random.nextInt(routers), net, 1 + random.nextInt(30))); break;
            case 15: if (random.nextInt(4) == 0) tried(() -> x.abort(host, door)); break;
            default: x.run(1 + random.nextInt(random.nextInt(5) == 0 ? 1000 : 50));
        }
    }
}
