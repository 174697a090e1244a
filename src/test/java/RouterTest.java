/** Neighbours, adverts and ways: promises 5, 6, 19 to 21 and 25. */
public final class RouterTest {
    private static final Checks CHECKS = new Checks("RouterTest");

    public static void main(String[] args) {
        becomingFriends();
        ceasingToHear();
        neverCeasing();
        oneWayOnly();
        netsThatGoDown();
        adverts();
        advertsAgain();
        takingOut();
        lostAdverts();
        waysAndTies();
        ownPortFirst();
        sixteenNeighbours();
        seenFromAbove();
        CHECKS.end();
    }

    private static void runTo(WholeInternet x, int tick) {
        while (x.time() < tick) x.run(Math.min(1000, tick - x.time()));
    }

    /** Routers 0 and 1 on net 0, of that delay. */
    private static WholeInternet twoRouters(int delay) {
        WholeInternet x = new WholeInternet();
        x.net(1500, delay);
        x.join(x.box(true), 0);
        x.join(x.box(true), 0);
        return x;
    }

    private static void becomingFriends() {
        WholeInternet x = twoRouters(3);
        x.net(1500, 1);
        runTo(x, 19);
        CHECKS.due("nobody greets", x.count(0, 0), 0);
        x.run(1);
        CHECKS.due("both greet", x.count(0, 0), 2);
        runTo(x, 42);
        CHECKS.due("heard, not named yet", x.friends(0, 1, 0), false);
        x.run(1);
        CHECKS.due("named at 40, friends at 43", x.friends(0, 1, 0), true);
        CHECKS.due("friends", x.friends(1, 0, 0), true);
        CHECKS.due("never itself", x.friends(0, 0, 0), false);
        CHECKS.due("nor on a net without a port", x.friends(0, 1, 1), false);
        CHECKS.due("the first advert at 1, the second one at 43", x.advert(0, 0), 2);
        CHECKS.due("not heard of yet", x.advert(0, 1), -1);
        runTo(x, 46);
        CHECKS.due("heard of at 46", x.advert(0, 1), 2);
        // greetings at 20 and 40, an advert each at 43, a thanks each at 46
        CHECKS.due("made", x.count(0, 2), 4);
        runTo(x, 59);
        CHECKS.due("nothing is due any more", x.count(0, 2), 4);
        CHECKS.due("got", x.count(0, 3), 4);
    }

    /** Of what is put at 60, 80, 100 and 120 the second greeting, box 1's, is lost. */
    private static void ceasingToHear() {
        WholeInternet x = twoRouters(1);
        runTo(x, 59);
        CHECKS.due("fates", x.fates(0, 0x4444, 8), 8);
        runTo(x, 120);
        CHECKS.due("last heard at 41: still a friend", x.friends(0, 1, 0), true);
        x.run(1);
        CHECKS.due("80 ticks ago: no more", x.friends(0, 1, 0), false);
        CHECKS.due("the other one hears", x.friends(1, 0, 0), true);
        CHECKS.due("a new advert", x.advert(0, 0), 3);
        CHECKS.due("the base keeps the other's", x.advert(0, 1), 2);
        runTo(x, 141);
        CHECKS.due("the greeting of 140 does not name box 1: no friend there either", x.friends(1, 0, 0), false);
        CHECKS.due("heard, and named: a friend", x.friends(0, 1, 0), true);
        runTo(x, 161);
        CHECKS.due("friends again", x.friends(1, 0, 0), true);
    }

    private static void neverCeasing() {
        WholeInternet x = twoRouters(1);
        runTo(x, 59);
        CHECKS.due("fates", x.fates(0, 0x444, 6), 6);
        runTo(x, 200);
        CHECKS.due("heard at 41 and at 121: it never ceased", x.friends(0, 1, 0), true);
        CHECKS.due("no new advert", x.advert(0, 0), 2);
    }

    private static void oneWayOnly() {
        // all that box 1 says is lost, by a long schedule
        WholeInternet x = twoRouters(1);
        x.fates(0, 0x4444444444444444L, 32);
        runTo(x, 300);
        CHECKS.due("not heard", x.friends(0, 1, 0), false);
        CHECKS.due("not named", x.friends(1, 0, 0), false);
        CHECKS.due("nothing to tell but ports", x.advert(0, 0), 1);
        CHECKS.due("put", x.count(0, 0), 30);
        CHECKS.due("arrived", x.count(0, 1), 15 - 1);
    }

    private static void netsThatGoDown() {
        WholeInternet x = twoRouters(1);
        runTo(x, 100);
        x.link(0, false);
        CHECKS.due("a friend until the next turn", x.friends(0, 1, 0), true);
        CHECKS.due("way()", x.way(0, 0, 0), 10);
        CHECKS.due("shouldCost()", x.shouldCost(0, 0), -1);
        x.run(1);
        CHECKS.due("no more", x.friends(0, 1, 0), false);
        CHECKS.due("way()", x.way(0, 0, 0), -1);
        CHECKS.due("it tells of nothing", x.advert(0, 0), 3);
        int put = x.count(0, 0);
        runTo(x, 140);
        CHECKS.due("no greetings", x.count(0, 0), put);
        x.link(0, true);
        x.run(1);
        CHECKS.due("way()", x.way(0, 0, 0), 10);
        runTo(x, 180);
        CHECKS.due("heard, and named by 180", x.friends(0, 1, 0), false);
        x.run(1);
        CHECKS.due("friends", x.friends(0, 1, 0), true);
        // down and up between two ticks: nobody finds it
        int tells = x.advert(0, 0);
        runTo(x, 190);
        tells = x.advert(0, 0);
        x.link(0, false);
        x.link(0, true);
        x.run(30);
        CHECKS.due("friends", x.friends(0, 1, 0), true);
        CHECKS.due("no new advert", x.advert(0, 0), tells);
    }

    private static void adverts() {
        WholeInternet x = twoRouters(1);
        CHECKS.due("none before the first turn", x.advert(0, 0), -1);
        x.run(1);
        CHECKS.due("the first one", x.advert(0, 0), 1);
        // another cost at 1: told at 11 at the earliest
        x.cost(0, 0, 20);
        runTo(x, 10);
        CHECKS.due("not in the first 9 ticks", x.advert(0, 0), 1);
        x.run(1);
        CHECKS.due("in the tenth", x.advert(0, 0), 2);
        // a change that is undone in time is not told
        x.cost(0, 0, 30);
        x.run(3);
        x.cost(0, 0, 20);
        x.run(9);
        CHECKS.due("nothing new", x.advert(0, 0), 2);
        x.cost(0, 0, 20);
        x.run(9);
        CHECKS.due("the same cost is nothing new", x.advert(0, 0), 2);
        runTo(x, 100);
        int number = x.advert(0, 0);
        x.cost(0, 0, 5);
        x.run(1);
        CHECKS.due("at once otherwise", x.advert(0, 0), number + 1);
        CHECKS.due("not there yet", x.advert(1, 0), number);
        x.run(1);
        CHECKS.due("there", x.advert(1, 0), number + 1);
    }

    private static void advertsAgain() {
        WholeInternet x = twoRouters(1);
        runTo(x, 2040);
        CHECKS.due("the one of 41", x.advert(0, 0), 2);
        x.run(1);
        CHECKS.due("2000 ticks old", x.advert(0, 0), 3);
        runTo(x, 4041);
        CHECKS.due("and again", x.advert(0, 0), 4);
        CHECKS.due("the other one has the one before", x.advert(1, 0), 3);
        x.run(1);
        CHECKS.due("and gets it", x.advert(1, 0), 4);
    }

    private static void takingOut() {
        WholeInternet x = twoRouters(1);
        runTo(x, 100);
        CHECKS.due("came at 42", x.advert(0, 1), 2);
        x.link(0, false);
        runTo(x, 5041);
        CHECKS.due("still there", x.advert(0, 1), 2);
        x.run(1);
        CHECKS.due("taken out in the 5000th tick behind its coming", x.advert(0, 1), -1);
        CHECKS.due("its own is there", x.advert(0, 0) > 2, true);
    }

    /** An advert that is lost is sent again 15 ticks later; so is one whose thanks is lost. */
    private static void lostAdverts() {
        WholeInternet x = twoRouters(1);
        runTo(x, 100);
        x.cost(0, 0, 5);
        x.fates(0, 1, 1);
        x.run(1);
        int put = x.count(0, 0);
        x.run(14);
        CHECKS.due("lost", x.advert(1, 0), 2);
        CHECKS.due("nothing more", x.count(0, 0), put);
        x.run(1);
        CHECKS.due("sent again", x.count(0, 0), put + 1);
        // its thanks is lost
        x.fates(0, 1, 1);
        x.run(1);
        CHECKS.due("came", x.advert(1, 0), 3);
        CHECKS.due("thanked for", x.count(0, 0), put + 2);
        runTo(x, 130);
        CHECKS.due("greetings", x.count(0, 0), put + 4);
        x.run(1);
        CHECKS.due("sent again", x.count(0, 0), put + 5);
        x.run(1);
        CHECKS.due("thanked for again", x.count(0, 0), put + 6);
        runTo(x, 139);
        CHECKS.due("due no more", x.count(0, 0), put + 6);
        runTo(x, 150);
        CHECKS.due("due no more", x.count(0, 0), put + 8);
    }

    /** Routers 0 and 3 with 1 and 2 between them, each by two nets; net 8 is behind router 3. */
    private static void waysAndTies() {
        WholeInternet x = new WholeInternet();
        for (int n = 0; n < 9; n++) x.net(1500, 1);
        for (int r = 0; r < 4; r++) x.box(true);
        int[][] ends = {{0, 1}, {0, 1}, {0, 2}, {0, 2}, {1, 3}, {1, 3}, {2, 3}, {2, 3}};
        // the nets 4 to 7 come first at routers 1 and 2: the order of ports is not that of nets
        for (int n = 7; n >= 0; n--) {
            x.join(ends[n][0], n);
            x.join(ends[n][1], n);
        }
        x.join(3, 8);
        runTo(x, 100);
        CHECKS.due("way(0, 8, 0)", x.way(0, 8, 0), 30);
        CHECKS.due("over the least net", x.way(0, 8, 2), 0);
        CHECKS.due("to its router", x.way(0, 8, 1), 1);
        CHECKS.due("shouldCost(0, 8)", x.shouldCost(0, 8), 30);
        x.cost(0, 0, 11);
        runTo(x, 120);
        CHECKS.due("over the next net", x.way(0, 8, 2), 1);
        CHECKS.due("to its router", x.way(0, 8, 1), 1);
        x.cost(0, 1, 11);
        runTo(x, 140);
        CHECKS.due("over the third net", x.way(0, 8, 2), 2);
        CHECKS.due("to its router", x.way(0, 8, 1), 2);
        x.cost(0, 0, 9);
        runTo(x, 160);
        CHECKS.due("way(0, 8, 0)", x.way(0, 8, 0), 29);
        CHECKS.due("over the least sum", x.way(0, 8, 2), 0);
        // costs are those of the ports that are left: what is told the other way round does not count
        x.cost(1, 0, 1000);
        runTo(x, 180);
        CHECKS.due("way(0, 8, 0)", x.way(0, 8, 0), 29);
        CHECKS.due("way(1, 2, 0)", x.way(1, 2, 0), 20);
        x.cost(3, 8, 7);
        runTo(x, 200);
        CHECKS.due("the cost of the last port", x.way(0, 8, 0), 26);
        CHECKS.due("shouldCost(0, 8)", x.shouldCost(0, 8), 26);

        // two routers behind the same net: the lesser one
        WholeInternet y = new WholeInternet();
        y.net(1500, 1);
        y.net(1500, 1);
        for (int r = 0; r < 3; r++) y.join(y.box(true), 0);
        y.join(2, 1);
        y.join(1, 1);
        runTo(y, 100);
        CHECKS.due("way(0, 1, 0)", y.way(0, 1, 0), 20);
        CHECKS.due("the lesser router", y.way(0, 1, 1), 1);
        y.cost(1, 1, 11);
        runTo(y, 120);
        CHECKS.due("the cheaper router", y.way(0, 1, 1), 2);
        y.link(1, false);
        runTo(y, 140);
        CHECKS.due("none", y.way(0, 1, 0), -1);
        CHECKS.due("none", y.way(0, 1, 1), -1);
        CHECKS.due("none", y.way(0, 1, 2), -1);
    }

    private static void ownPortFirst() {
        // its own port costs 500, and a way by router 1 would cost 20
        WholeInternet x = new WholeInternet();
        x.net(1500, 1);
        x.net(1500, 1);
        for (int r = 0; r < 2; r++) {
            x.box(true);
            x.join(r, 0);
            x.join(r, 1);
        }
        x.cost(0, 1, 500);
        runTo(x, 100);
        CHECKS.due("way()", x.way(0, 1, 0), 500);
        CHECKS.due("itself", x.way(0, 1, 1), 0);
        CHECKS.due("that net", x.way(0, 1, 2), 1);
        CHECKS.due("shouldCost()", x.shouldCost(0, 1), 500);
        // the net goes down; router 1's advert tells of it for 2 ticks more
        x.link(1, false);
        x.run(1);
        CHECKS.due("by router 1's advert", x.way(0, 1, 0), 20);
        CHECKS.due("shouldCost()", x.shouldCost(0, 1), -1);
        x.run(1);
        CHECKS.due("none", x.way(0, 1, 0), -1);

        // soon behind an advert its own still tells of the port: by that there is no way
        WholeInternet y = new WholeInternet();
        y.net(1500, 1);
        y.net(1500, 1);
        for (int r = 0; r < 2; r++) {
            y.box(true);
            y.join(r, 0);
            y.join(r, 1);
        }
        runTo(y, 100);
        y.cost(0, 1, 15);
        y.run(2);
        y.link(1, false);
        y.run(1);
        CHECKS.due("itself is one of the routers at the least cost", y.way(0, 1, 0), -1);
        WholeInternet z = new WholeInternet();
        z.net(1500, 1);
        z.net(1500, 1);
        for (int r = 0; r < 2; r++) {
            z.box(true);
            z.join(r, 0);
            z.join(r, 1);
        }
        runTo(z, 100);
        z.cost(0, 1, 21);
        z.run(2);
        z.link(1, false);
        z.run(1);
        CHECKS.due("the other router is nearer", z.way(0, 1, 0), 20);
    }

    /** Router 0 hears 16 neighbours on all ports together; the greetings of more count for nothing. */
    private static void sixteenNeighbours() {
        WholeInternet x = new WholeInternet();
        for (int n = 0; n < 3; n++) x.net(1500, 1);
        for (int r = 0; r < 8; r++) {
            x.box(true);
            for (int n = 0; n < 3; n++) x.join(r, n);
        }
        runTo(x, 100);
        int friends = 0;
        for (int n = 0; n < 3; n++) {
            for (int r = 0; r < 8; r++) friends += x.friends(0, r, n) ? 1 : 0;
        }
        CHECKS.due("16 friends", friends, 16);
        // they greeted box by box, and net by net
        CHECKS.due("the 15th", x.friends(0, 5, 2), true);
        CHECKS.due("the 16th", x.friends(0, 6, 0), true);
        CHECKS.due("not the 17th", x.friends(0, 6, 1), false);
        CHECKS.due("nor the last one", x.friends(0, 7, 2), false);
        // one net goes down: there is room for those of the third one
        x.link(0, false);
        runTo(x, 161);
        CHECKS.due("a friend now", x.friends(0, 7, 2), true);
        CHECKS.due("not there", x.friends(0, 1, 0), false);
    }

    private static void seenFromAbove() {
        WholeInternet x = new WholeInternet();
        for (int n = 0; n < 4; n++) x.net(1500, 1);
        for (int r = 0; r < 3; r++) {
            x.box(true);
            x.join(r, r);
            x.join(r, r + 1);
        }
        x.join(x.box(false), 3);
        CHECKS.due("shouldCost() before any tick", x.shouldCost(0, 3), 30);
        CHECKS.due("its own port", x.shouldCost(0, 1), 10);
        x.cost(1, 1, 1);
        CHECKS.due("the other way", x.shouldCost(2, 0), 21);
        CHECKS.due("there", x.shouldCost(0, 3), 30);
        x.cost(1, 2, 100);
        CHECKS.due("another cost", x.shouldCost(0, 3), 120);
        x.link(2, false);
        CHECKS.due("cut off", x.shouldCost(0, 3), -1);
        CHECKS.due("the net itself", x.shouldCost(0, 2), -1);
        CHECKS.due("behind it", x.shouldCost(2, 3), 10);
        CHECKS.badArgument("of a host", () -> x.shouldCost(3, 3));
        int net = x.net(1500, 1);
        CHECKS.due("a net without routers", x.shouldCost(0, net), -1);
    }
}
