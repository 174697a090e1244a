/** A whole internetwork that is run tick by tick; ../shared/DOC.md says what each call promises. */
public final class WholeInternet {
    public static final int NONE = -1;
    public static final int OVER = -2;
    public static final int SPARE = 12;

    private static final int MOST_BOXES = 16;
    private static final int MOST_NETS = 24;
    private static final int MOST_STATIONS = 8;
    private static final int MOST_PORTS = 6;
    private static final int MOST_DOORS = 6;
    private static final int MOST_FATES = 64;
    private static final int MOST_FLYING = 512;
    private static final int MOST_WAITING = 16;
    private static final int MOST_HEARD = 16;
    private static final int MOST_THANKS = 64;
    private static final int MOST_ENTRIES = 24;
    private static final int MOST_PARTIAL = 4;
    private static final int MOST_WRITINGS = 512;
    private static final int LAST_TICK = 400000;
    private static final int LAST_PORT_NUMBER = 65535;
    private static final int FIRST_OWN_PORT_NUMBER = 50000;

    private static final int HEAD = 20;
    private static final int SEGMENT_HEAD = 20;
    private static final int MOST_LOAD = 1480;
    private static final int ROW = 2048;
    private static final int ROW_MASK = 2047;

    // the farthest arrival is 4 * 50 ticks away, so no two due ticks under way share a place
    private static final int CALENDAR = 256;
    private static final int CALENDAR_MASK = 255;

    private static final int ERROR = 0;
    private static final int STREAM = 1;
    private static final int GREETING = 2;
    private static final int ADVERT = 3;
    private static final int THANKING = 4;
    private static final int ASK = 5;
    private static final int ANSWER = 6;

    private static final int OPEN = 1;
    private static final int LAST = 2;
    private static final int RESET = 4;
    private static final int THANKS = 8;

    private static final int UNREACHABLE = 1;
    private static final int TOO_OLD = 2;

    private static final int FREE = 0;
    private static final int LISTENING = 1;
    private static final int ASKING = 2;
    private static final int ANSWERING = 3;
    private static final int ON = 4;
    private static final int LEAVING = 5;
    private static final int LEFT = 6;
    private static final int ALONE = 7;
    private static final int PARTING = 8;
    private static final int ENDING = 9;
    private static final int QUIET = 10;
    private static final int ABORTED = 11;

    private static final int UNUSED = 0;
    private static final int LISTENS = 1;
    private static final int WITH_END = 2;

    private static final int FAR = 1000000000;
    private static final int FILLED = 4096;

    private final Net[] nets = new Net[MOST_NETS];
    private int netCount;
    private final Box[] boxes = new Box[MOST_BOXES];
    private int boxCount;
    private int now;
    private int stirred;
    private int world;
    private int ends;
    private int strayCount;

    private final Parcel[] firstDue = new Parcel[CALENDAR];
    private final Parcel[] lastDue = new Parcel[CALENDAR];
    private Parcel spare;
    private int flying;
    private final Parcel made = new Parcel();
    private final Parcel note = new Parcel();
    // an error or a reset stands in made, and is to be sent at once
    private boolean answerDue;

    // what was written, call by call, so that strays() can tell the very next byte
    private final int[] writer = new int[MOST_WRITINGS];
    private final int[] writtenSize = new int[MOST_WRITINGS];
    private final long[] writtenBytes = new long[MOST_WRITINGS];
    private int writings;

    private final int[] reach = new int[MOST_BOXES];

    public WholeInternet() {
        for (int n = 0; n < MOST_NETS; n++) nets[n] = new Net(n);
        // one more than may be under way: the one that arrives just now
        for (int i = 0; i <= MOST_FLYING; i++) {
            Parcel parcel = new Parcel();
            parcel.behind = spare;
            spare = parcel;
        }
    }

    // ---------------------------------------------------------------- making the internetwork

    public int box(boolean router) throws IllegalStateException {
        if (boxCount >= MOST_BOXES) throw new IllegalStateException("there are 16 boxes");
        boxes[boxCount] = new Box(boxCount, router);
        boxCount++;
        stir();
        return boxCount - 1;
    }

    public int net(int largest, int delay) throws IllegalArgumentException, IllegalStateException {
        if (largest < 100 || largest > 1500) throw new IllegalArgumentException("largest is not 100 .. 1500");
        if (delay < 1 || delay > 50) throw new IllegalArgumentException("delay is not 1 .. 50");
        if (netCount >= MOST_NETS) throw new IllegalStateException("there are 24 nets");
        nets[netCount].largest = largest;
        nets[netCount].delay = delay;
        netCount++;
        changeWorld();
        return netCount - 1;
    }

    public int join(int box, int net) throws IllegalArgumentException, IllegalStateException {
        Box joining = boxOf(box);
        Net joined = netOf(net);
        if (joining == null || joined == null) throw new IllegalArgumentException("no such box or net");
        int most = joining.routes ? MOST_PORTS : 1;
        if (joining.portCount >= most) throw new IllegalStateException("the box has no port more");
        if (joining.portOn(net) != null) throw new IllegalStateException("the box is on the net");
        if (joined.stationCount >= MOST_STATIONS) throw new IllegalStateException("the net has 8 stations");
        Port port = new Port(joining, joined, joining.portCount, joined.stationCount);
        joining.ports[joining.portCount] = port;
        joining.portCount++;
        joined.stations[joined.stationCount] = port;
        joined.stationCount++;
        changeWorld();
        return port.address;
    }

    public int cost(int router, int net, int cost) throws IllegalArgumentException {
        Box box = routerOf(router);
        if (box == null || netOf(net) == null) throw new IllegalArgumentException("no such router or net");
        Port port = box.portOn(net);
        if (port == null) throw new IllegalArgumentException("the router is not on the net");
        if (cost < 1 || cost > 1000) throw new IllegalArgumentException("cost is not 1 .. 1000");
        int before = port.toll;
        if (cost != before) {
            port.toll = cost;
            changeWorld();
        }
        return before;
    }

    public boolean link(int net, boolean up) throws IllegalArgumentException {
        Net linked = netOf(net);
        if (linked == null) throw new IllegalArgumentException("no such net");
        if (linked.up == up) return false;
        linked.up = up;
        if (!up) loseAllOn(net);
        changeWorld();
        return true;
    }

    public int fates(int net, long fates, int n) throws IllegalArgumentException, IllegalStateException {
        Net scheduled = netOf(net);
        if (scheduled == null) throw new IllegalArgumentException("no such net");
        if (n < 1 || n > 32) throw new IllegalArgumentException("n is not 1 .. 32");
        if (scheduled.fateCount + n > MOST_FATES) throw new IllegalStateException("more than 64 fates");
        for (int i = 0; i < n; i++) scheduled.addFate((int) (fates >>> (2 * i)) & 3);
        return scheduled.fateCount;
    }

    public int run(int ticks) throws IllegalArgumentException, IllegalStateException {
        if (ticks < 1 || ticks > 1000) throw new IllegalArgumentException("ticks is not 1 .. 1000");
        if (now + ticks > LAST_TICK) throw new IllegalStateException("the time would be more than 400000");
        for (int i = 0; i < ticks; i++) {
            now++;
            letArrive();
            for (int b = 0; b < boxCount; b++) {
                Box box = boxes[b];
                doAskings(box);
                givePartialUp(box);
                if (box.routes) doRouter(box);
                else doHost(box);
            }
        }
        return now;
    }

    // ---------------------------------------------------------------- the owner's calls

    public int listen(int host, int port, int backlog) throws IllegalArgumentException, IllegalStateException {
        Box box = hostOf(host);
        if (box == null) throw new IllegalArgumentException("no such host");
        if (port < 1 || port >= FIRST_OWN_PORT_NUMBER) throw new IllegalArgumentException("port is not 1 .. 49999");
        if (backlog < 1 || backlog > 5) throw new IllegalArgumentException("backlog is not 1 .. 5");
        int free = box.unusedDoor();
        if (free < 0) throw new IllegalStateException("no door is free");
        if (box.listenerAt(port) >= 0) throw new IllegalStateException("one listens there");
        box.doors[free].startListening(port, backlog);
        stir();
        return free;
    }

    public int open(int host, int address, int port) throws IllegalArgumentException, IllegalStateException {
        Box box = hostOf(host);
        if (box == null) throw new IllegalArgumentException("no such host");
        if (port < 1 || port > LAST_PORT_NUMBER) throw new IllegalArgumentException("port is not 1 .. 65535");
        if (box.hasAddress(address)) throw new IllegalArgumentException("the address is its own");
        int free = box.unusedDoor();
        if (free < 0) throw new IllegalStateException("no door is free");
        Port own = box.ports[0];
        if (own == null) throw new IllegalStateException("the host has no port");
        if (FIRST_OWN_PORT_NUMBER + box.opened > LAST_PORT_NUMBER) throw new IllegalStateException("no port number more");
        Door door = box.doors[free];
        door.giveEnd(FIRST_OWN_PORT_NUMBER + box.opened, address, port);
        box.opened++;
        ends++;
        door.end.begin(firstNumber(box), own.on.largest - 40, ends);
        door.end.startAsking();
        stir();
        return free;
    }

    public int accept(int host, int door) throws IllegalArgumentException, IllegalStateException {
        Box box = hostOf(host);
        Door listener = doorOf(host, door);
        if (box == null || listener == null) throw new IllegalArgumentException("no such host or door");
        if (listener.use != LISTENS) throw new IllegalStateException("the door does not listen");
        for (int d = 0; d < MOST_DOORS; d++) {
            Door came = box.doors[d];
            if (came.use != WITH_END || came.through != door || came.told) continue;
            if (came.end.state < ON || came.end.state > QUIET) continue;
            came.told = true;
            return d;
        }
        return NONE;
    }

    public int write(int host, int door, long bytes, int n) throws IllegalArgumentException, IllegalStateException {
        Door written = doorOf(host, door);
        if (written == null) throw new IllegalArgumentException("no such host or door");
        if (n < 1 || n > 8) throw new IllegalArgumentException("n is not 1 .. 8");
        if (!written.takesBytes()) throw new IllegalStateException("the door takes no bytes");
        int taken = Math.min(n, ROW - written.end.out.length);
        for (int i = 0; i < taken; i++) written.end.out.add((int) (bytes >>> (8 * (n - 1 - i))));
        // what was not taken stands lowest: the ledger keeps the taken ones alone
        noteWriting(written.end, taken, bytes >>> (8 * (n - taken) & 63));
        wroteTo(written);
        return taken;
    }

    public int fill(int host, int door, int seed, int step, int n) throws IllegalArgumentException, IllegalStateException {
        Door written = doorOf(host, door);
        if (written == null) throw new IllegalArgumentException("no such host or door");
        if (n < 1 || n > ROW) throw new IllegalArgumentException("n is not 1 .. 2048");
        if (!written.takesBytes()) throw new IllegalStateException("the door takes no bytes");
        int taken = Math.min(n, ROW - written.end.out.length);
        for (int i = 0; i < taken; i++) written.end.out.add(seed + i * step);
        noteWriting(written.end, taken + FILLED, (long) (step & 255) << 8 | (seed & 255));
        wroteTo(written);
        return taken;
    }

    public int read(int host, int door) throws IllegalArgumentException, IllegalStateException {
        Door asked = readableDoor(host, door);
        if (asked.end.in.length == 0) return asked.end.in.over ? OVER : NONE;
        return takeByte(asked);
    }

    public int readAll(int host, int door, int n) throws IllegalArgumentException, IllegalStateException {
        if (doorOf(host, door) == null) throw new IllegalArgumentException("no such host or door");
        if (n < 1 || n > ROW) throw new IllegalArgumentException("n is not 1 .. 2048");
        Door asked = readableDoor(host, door);
        int told = 1;
        for (int i = 0; i < n && asked.end.in.length > 0; i++) told = 31 * told + takeByte(asked);
        return told;
    }

    public void close(int host, int door) throws IllegalArgumentException, IllegalStateException {
        Box box = hostOf(host);
        Door closed = doorOf(host, door);
        if (box == null || closed == null) throw new IllegalArgumentException("no such host or door");
        if (closed.use == UNUSED) throw new IllegalStateException("the door is free");
        if (closed.use == LISTENS) {
            abandonThrough(box, door);
            closed.setUnused();
        } else if (closed.end.isDead()) {
            closed.setUnused();
        } else if (closed.end.out.closed) {
            throw new IllegalStateException("the end has closed");
        } else {
            closed.end.closeByOwner();
            closed.end.armProbe(now);
        }
        stir();
    }

    public void abort(int host, int door) throws IllegalArgumentException, IllegalStateException {
        Door aborted = doorOf(host, door);
        if (aborted == null) throw new IllegalArgumentException("no such host or door");
        if (aborted.use != WITH_END) throw new IllegalStateException("the door is free or listens");
        if (aborted.end.isDead()) throw new IllegalStateException("the end is FREE or ABORTED");
        aborted.end.abortByOwner();
        stir();
    }

    public int door(int host, int door, int what) throws IllegalArgumentException {
        Door asked = doorOf(host, door);
        if (asked == null) throw new IllegalArgumentException("no such host or door");
        if (what < 0 || what > 6) throw new IllegalArgumentException("what is not 0 .. 6");
        boolean ended = asked.use == WITH_END;
        switch (what) {
            case 0: return ended ? asked.end.state : asked.use == LISTENS ? LISTENING : SPARE;
            case 1: return asked.portNumber;
            case 2: return asked.peerPort;
            case 3: return asked.peer;
            case 4: return ended ? asked.end.in.length : 0;
            case 5: return asked.takesBytes() ? ROW - asked.end.out.length : 0;
            default: return ended ? asked.end.out.length : 0;
        }
    }

    public void drain(int host, int door, boolean on) throws IllegalArgumentException, IllegalStateException {
        Door drained = doorOf(host, door);
        if (drained == null) throw new IllegalArgumentException("no such host or door");
        if (drained.use != WITH_END) throw new IllegalStateException("the door is free or listens");
        drained.drains = on;
    }

    public int drained(int host, int door) throws IllegalArgumentException {
        Door asked = doorOf(host, door);
        if (asked == null) throw new IllegalArgumentException("no such host or door");
        return asked.drainTold;
    }

    // ---------------------------------------------------------------- looking at the internetwork

    public int way(int router, int net, int what) throws IllegalArgumentException {
        Box box = routerOf(router);
        if (box == null || netOf(net) == null) throw new IllegalArgumentException("no such router or net");
        if (what < 0 || what > 2) throw new IllegalArgumentException("what is not 0 .. 2");
        Base base = box.router.base;
        if (what == 0) return base.wayCost[net];
        return what == 1 ? base.wayNext[net] : base.wayOver[net];
    }

    public boolean friends(int router, int other, int net) throws IllegalArgumentException {
        Box box = routerOf(router);
        if (box == null || routerOf(other) == null) throw new IllegalArgumentException("no such router");
        if (netOf(net) == null) throw new IllegalArgumentException("no such net");
        Port port = box.portOn(net);
        return port != null && box.router.friend[keyOf(port, other)];
    }

    public int advert(int router, int of) throws IllegalArgumentException {
        Box box = routerOf(router);
        if (box == null || routerOf(of) == null) throw new IllegalArgumentException("no such router");
        int number = box.router.base.number[of];
        return number == 0 ? NONE : number;
    }

    public int count(int which, int what) throws IllegalArgumentException {
        if (what < 0 || what > 7) throw new IllegalArgumentException("what is not 0 .. 7");
        if (what < 2) {
            Net net = netOf(which);
            if (net == null) throw new IllegalArgumentException("no such net");
            return what == 0 ? net.putCount : net.arrivedCount;
        }
        Box box = boxOf(which);
        if (box == null) throw new IllegalArgumentException("no such box");
        return box.tally[what];
    }

    public int underWay() {
        return flying;
    }

    public int time() {
        return now;
    }

    public int shouldCost(int router, int net) throws IllegalArgumentException {
        Box box = routerOf(router);
        Net goal = netOf(net);
        if (box == null || goal == null) throw new IllegalArgumentException("no such router or net");
        return costFromAbove(box, goal);
    }

    public int bound() {
        return calmBound();
    }

    public int strays() {
        return strayCount;
    }

    public int overdue() {
        if (now - stirred < calmBound()) return 0;
        int late = 0;
        for (int b = 0; b < boxCount; b++) {
            Box box = boxes[b];
            if (box.routes) late += wrongWays(box);
            else late += stuckEnds(box);
        }
        return late;
    }

    private int calmBound() {
        int delay = 1;
        for (int n = 0; n < netCount; n++) delay = Math.max(delay, nets[n].delay);
        return 100 + 4 * delay + 2 * (11 + boxCount * (17 + 3 * delay)) + 40 * (1200 + 6 * (boxCount + 2) * delay);
    }

    private int wrongWays(Box box) {
        int wrong = 0;
        for (int n = 0; n < netCount; n++) {
            if (box.router.base.wayCost[n] != costFromAbove(box, nets[n])) wrong++;
        }
        return wrong;
    }

    private int stuckEnds(Box host) {
        int stuck = 0;
        for (int d = 0; d < MOST_DOORS; d++) {
            Door door = host.doors[d];
            if (door.use != WITH_END || door.end.state < ON || door.end.state > QUIET) continue;
            if (door.end.out.length > 0 && joinedWith(host, door.peer)) stuck++;
        }
        return stuck;
    }

    /** Whether the host of an address can be reached from another one over nets that are up and routers. */
    private boolean joinedWith(Box host, int address) {
        Port own = host.ports[0];
        Port other = portOfAddress(address);
        if (own == null || other == null || other.owner.routes || !own.on.up) return false;
        int reached = 1 << own.on.number;
        // each round that changes anything reaches a further net, so there are no more rounds than nets
        for (int round = 0; round < MOST_NETS; round++) {
            for (int b = 0; b < boxCount; b++) {
                if (!boxes[b].routes) continue;
                int around = boxes[b].netsUp();
                if ((around & reached) != 0) reached |= around;
            }
        }
        return (reached >>> other.on.number & 1) != 0;
    }

    private int costFromAbove(Box from, Net goal) {
        if (!goal.up) return NONE;
        Port own = from.portOn(goal.number);
        if (own != null) return own.toll;
        for (int b = 0; b < MOST_BOXES; b++) reach[b] = FAR;
        reach[from.number] = 0;
        boolean nearer = true;
        // a least path passes each router once, so further rounds could bring nothing nearer
        for (int round = 0; round < MOST_BOXES && nearer; round++) {
            nearer = false;
            for (int b = 0; b < boxCount; b++) {
                if (reach[b] != FAR && spreadReach(boxes[b])) nearer = true;
            }
        }
        int best = FAR;
        for (int s = 0; s < goal.stationCount; s++) {
            Port last = goal.stations[s];
            if (reach[last.owner.number] != FAR) best = Math.min(best, reach[last.owner.number] + last.toll);
        }
        return best == FAR ? NONE : best;
    }

    /** Goes on from a router to those around it: whether one of them is nearer so. */
    private boolean spreadReach(Box box) {
        boolean nearer = false;
        for (int p = 0; p < box.portCount; p++) {
            Port port = box.ports[p];
            int far = reach[box.number] + port.toll;
            for (int s = 0; s < port.on.stationCount && port.on.up; s++) {
                Box other = port.on.stations[s].owner;
                if (!other.routes || reach[other.number] <= far) continue;
                reach[other.number] = far;
                nearer = true;
            }
        }
        return nearer;
    }

    // ---------------------------------------------------------------- finding things

    private Box boxOf(int box) {
        return box >= 0 && box < boxCount ? boxes[box] : null;
    }

    private Box hostOf(int host) {
        Box box = boxOf(host);
        return box == null || box.routes ? null : box;
    }

    private Box routerOf(int router) {
        Box box = boxOf(router);
        return box == null || !box.routes ? null : box;
    }

    private Net netOf(int net) {
        return net >= 0 && net < netCount ? nets[net] : null;
    }

    private Door doorOf(int host, int door) {
        Box box = hostOf(host);
        return box == null || door < 0 || door >= MOST_DOORS ? null : box.doors[door];
    }

    private Door readableDoor(int host, int door) {
        Door asked = doorOf(host, door);
        if (asked == null) throw new IllegalArgumentException("no such host or door");
        if (asked.use != WITH_END) throw new IllegalStateException("the door is free or listens");
        End end = asked.end;
        if (end.in.length == 0 && !end.in.over && (end.isDead() || end.state == LISTENING)) {
            throw new IllegalStateException("nothing can be read any more");
        }
        return asked;
    }

    /** The port that bears an address, or null. */
    private Port portOfAddress(int address) {
        Net net = isNetAddress(address) ? nets[address >>> 16 & 255] : null;
        if (net == null) return null;
        int station = (address & 65535) - 1;
        return station < net.stationCount ? net.stations[station] : null;
    }

    private boolean isNetAddress(int address) {
        if (address >>> 24 != 10 || (address >>> 16 & 255) >= netCount) return false;
        int low = address & 65535;
        return low >= 1 && low <= MOST_STATIONS;
    }

    private static int keyOf(Port port, int router) {
        return port.index * MOST_BOXES + router;
    }

    private static boolean isBefore(int x, int y) {
        return y - x > 0;
    }

    private int firstNumber(Box host) {
        return 64000 * now + 977 * host.number;
    }

    private void stir() {
        stirred = now;
    }

    private void changeWorld() {
        world++;
        stir();
    }

    // ---------------------------------------------------------------- frames

    private void loseAllOn(int net) {
        for (int c = 0; c < CALENDAR; c++) {
            Parcel frame = firstDue[c];
            firstDue[c] = null;
            lastDue[c] = null;
            for (int i = 0; i < MOST_FLYING && frame != null; i++) {
                Parcel following = frame.behind;
                if (frame.net == net) {
                    flying--;
                    giveBack(frame);
                } else {
                    hangIn(frame, c);
                }
                frame = following;
            }
        }
    }

    private void giveBack(Parcel frame) {
        frame.behind = spare;
        spare = frame;
    }

    private void hangIn(Parcel frame, int place) {
        frame.behind = null;
        Parcel last = lastDue[place];
        if (last == null) firstDue[place] = frame;
        else last.behind = frame;
        lastDue[place] = frame;
    }

    /** Puts a part of a datagram on a port's net, for one station or (-1) for all others. */
    private void putFrame(Port port, int to, Parcel parcel, int at, int size) {
        Net net = port.on;
        net.putCount++;
        if (!net.up) return;
        int fate = net.nextFate();
        if (fate != 0) stir();
        if (fate == 1) return;
        int arrivals = fate == 2 ? 2 : 1;
        if (flying + arrivals > MOST_FLYING) {
            stir();
            return;
        }
        int far = fate == 3 ? 4 * net.delay : net.delay;
        for (int i = 0; i < arrivals && spare != null; i++) {
            Parcel frame = spare;
            spare = frame.behind;
            frame.copyPart(parcel, at, size);
            frame.net = net.number;
            frame.from = port.station;
            frame.to = to;
            hangIn(frame, now + far & CALENDAR_MASK);
            flying++;
            far = 3 * net.delay;
        }
    }

    /** Puts a datagram on a port's net, cut if it is too large for that. */
    private void putOn(Port port, int to, Parcel parcel) {
        int most = port.on.largest - HEAD;
        if (parcel.length <= most) {
            putFrame(port, to, parcel, 0, parcel.length);
            return;
        }
        int size = Math.max(8, most / 8 * 8);
        for (int at = 0; at < parcel.length; at += size) {
            port.owner.tally[5]++;
            putFrame(port, to, parcel, at, Math.min(size, parcel.length - at));
        }
    }

    private void putNote(Port port, int to, int kind, int address) {
        note.begin(kind, 28);
        note.source = port.address;
        note.goal = address;
        putFrame(port, to, note, 0, note.length);
    }

    /** Sends a datagram to a station of a port's net, or lets it wait until that is known. */
    private void hand(Port port, int station, Parcel parcel) {
        if (port.knows(station, now)) {
            putOn(port, station, parcel);
            return;
        }
        if (!port.isAsked(station)) {
            port.beginAsking(station, now);
            putNote(port, -1, ASK, port.on.addressOf(station));
        }
        port.letWait(parcel, station);
        if (port.waitCount > MOST_WAITING) {
            Parcel oldest = port.takeWaiting(0);
            if (port.firstWaitingFor(oldest.to) < 0) port.endAsking(oldest.to);
            stir();
        }
    }

    /** Sends what waited for a station, which was heard just now. */
    private void release(Port port, int station) {
        for (int i = 0; i <= MOST_WAITING; i++) {
            int at = port.firstWaitingFor(station);
            if (at < 0) break;
            putOn(port, station, port.takeWaiting(at));
        }
        port.endAsking(station);
    }

    private void letArrive() {
        int place = now & CALENDAR_MASK;
        for (int i = 0; i < MOST_FLYING; i++) {
            Parcel frame = firstDue[place];
            if (frame == null) break;
            firstDue[place] = frame.behind;
            if (frame.behind == null) lastDue[place] = null;
            flying--;
            Net net = nets[frame.net];
            for (int s = 0; s < net.stationCount; s++) {
                if (frame.to < 0 ? s == frame.from : s != frame.to) continue;
                Port port = net.stations[s];
                if (arriveAt(port, frame)) forward(port, frame);
                if (answerDue) {
                    answerDue = false;
                    sendOff(port.owner, made);
                }
            }
            giveBack(frame);
        }
    }

    /** A frame arrives at a station: whether what it brings is to be forwarded. */
    private boolean arriveAt(Port port, Parcel frame) {
        Box box = port.owner;
        port.on.arrivedCount++;
        port.heardAt[frame.from] = now;
        if (port.isAsked(frame.from)) release(port, frame.from);
        if (frame.kind == ASK) {
            if (frame.goal == port.address) putNote(port, frame.from, ANSWER, frame.source);
            return false;
        }
        if (frame.kind == ANSWER) return false;
        if (frame.goal != 0 && !box.hasAddress(frame.goal)) {
            return box.routes && frame.to >= 0 && (frame.kind == STREAM || frame.kind == ERROR);
        }
        Parcel whole = putTogether(box, frame);
        if (whole == null) return false;
        box.tally[3]++;
        if (whole.kind == ERROR) errorCame(box, whole);
        else if (box.routes) takeAsRouter(port, whole);
        else if (whole.kind == STREAM) takeSegment(port, whole);
        return false;
    }

    private void takeAsRouter(Port port, Parcel parcel) {
        if (parcel.kind == GREETING) takeGreeting(port, parcel);
        else if (parcel.kind == ADVERT) takeAdvert(port, parcel);
        else if (parcel.kind == THANKING) takeThanking(port, parcel);
    }

    /** What a frame brings, if it is whole, or with this piece all of it has come; otherwise null. */
    private Parcel putTogether(Box box, Parcel piece) {
        if (piece.length >= piece.whole) return piece;
        int slot = box.partialFor(piece);
        if (slot < 0) {
            slot = box.emptyPartial();
            if (slot < 0) {
                slot = box.earliestPartial();
                stir();
            }
            box.beginPartial(slot, piece, now);
        }
        if (!box.addPiece(slot, piece)) return null;
        box.order[slot] = 0;
        box.tally[6]++;
        return box.partial[slot];
    }

    private void givePartialUp(Box box) {
        for (int i = 0; i < MOST_PARTIAL; i++) {
            if (box.order[i] == 0 || now - box.since[i] < 300) continue;
            box.order[i] = 0;
            stir();
        }
    }

    // ---------------------------------------------------------------- datagrams on their way

    private void forward(Port port, Parcel parcel) {
        Box box = port.owner;
        parcel.cameOver = port.index;
        parcel.lives--;
        if (parcel.lives <= 0) {
            comeBack(box, parcel, TOO_OLD);
            return;
        }
        int route = routeFromRouter(box, parcel.goal);
        if (route < 0) {
            comeBack(box, parcel, UNREACHABLE);
            return;
        }
        box.tally[4]++;
        hand(box.ports[route >> 3], route & 7, parcel);
    }

    /** Sends what a box made itself. */
    private void sendOff(Box box, Parcel parcel) {
        int route = box.routes ? routeFromRouter(box, parcel.goal) : routeFromHost(box, parcel.goal);
        if (route < 0) comeBack(box, parcel, UNREACHABLE);
        else hand(box.ports[route >> 3], route & 7, parcel);
    }

    /** The port and the station that come next, as 8 times the one and the other; -1 without a way. */
    private int routeFromRouter(Box box, int goal) {
        if (!isNetAddress(goal)) return -1;
        int net = goal >>> 16 & 255;
        Base base = box.router.base;
        if (base.wayCost[net] == NONE) return -1;
        Port port = box.portOn(base.wayOver[net]);
        if (port == null) return -1;
        if (base.wayNext[net] == box.number) return port.index * 8 + (goal & 65535) - 1;
        Box next = routerOf(base.wayNext[net]);
        Port there = next == null ? null : next.portOn(base.wayOver[net]);
        return there == null ? -1 : port.index * 8 + there.station;
    }

    private int routeFromHost(Box box, int goal) {
        Port port = box.ports[0];
        if (port == null) return -1;
        if (goal >>> 16 != port.address >>> 16) return port.on.leastRouter();
        return isNetAddress(goal) ? (goal & 65535) - 1 : -1;
    }

    private void comeBack(Box box, Parcel parcel, int why) {
        if (parcel.kind != STREAM || parcel.offset != 0) return;
        if (box.hasAddress(parcel.source)) {
            box.tally[7]++;
            abortAsking(box, parcel.goal, parcel.get2(0), parcel.get2(2));
            return;
        }
        Port over = parcel.cameOver < box.portCount ? box.ports[parcel.cameOver] : null;
        if (over == null) return;
        made.begin(ERROR, 36);
        made.source = over.address;
        made.goal = parcel.source;
        made.number = box.nextNumber();
        made.put4(0, parcel.source);
        made.put4(4, parcel.goal);
        made.put2(8, parcel.get2(0));
        made.put2(10, parcel.get2(2));
        made.put2(12, why);
        answerDue = true;
    }

    private void errorCame(Box box, Parcel error) {
        box.tally[7]++;
        if (!box.routes && box.hasAddress(error.get4(0))) {
            abortAsking(box, error.get4(4), error.get2(8), error.get2(10));
        }
    }

    private void abortAsking(Box host, int peer, int portNumber, int peerPort) {
        for (int d = 0; d < host.doors.length; d++) {
            Door door = host.doors[d];
            if (door.isFor(portNumber, peer, peerPort) && door.end.state == ASKING) door.end.finish(ABORTED);
        }
    }

    private void doAskings(Box box) {
        for (int p = 0; p < box.portCount; p++) {
            Port port = box.ports[p];
            int asked = port.rememberAsked();
            for (int i = 0; i < asked; i++) {
                int station = port.remembered[i];
                if (!port.isAsked(station)) continue;
                int gone = now - port.askedAt[station];
                if (gone == 20 || gone == 40) putNote(port, -1, ASK, port.on.addressOf(station));
                if (gone < 200) continue;
                int late = port.countWaitingFor(station);
                port.endAsking(station);
                for (int k = 0; k < late; k++) {
                    int at = port.firstWaitingFor(station);
                    if (at < 0) break;
                    comeBack(box, port.takeWaiting(at), UNREACHABLE);
                    if (!answerDue) continue;
                    answerDue = false;
                    sendOff(box, made);
                }
            }
        }
    }

    // ---------------------------------------------------------------- routers

    private void doRouter(Box box) {
        Router router = box.router;
        Base base = router.base;
        if (router.seenWorld != world) {
            router.seenWorld = world;
            router.tellsAnew = true;
            base.waysAnew = true;
        }
        forgetSilent(box);
        for (int r = 0; r < MOST_BOXES; r++) {
            if (base.number[r] == 0 || now - base.cameAt[r] < 5000) continue;
            base.takeOut(r);
            router.clearDueOf(r);
        }
        makeOwnAdvert(box);
        if (now % 20 == 0) sendGreetings(box);
        if (router.thankCount > 0) sendThanks(box);
        if (router.dueCount > 0) sendDue(box);
        if (base.waysAnew) base.findWays(box, netCount);
    }

    private void forgetSilent(Box box) {
        Router router = box.router;
        for (int i = router.heardCount - 1; i >= 0; i--) {
            int key = router.heard[i];
            Port port = box.ports[key / MOST_BOXES];
            if (!port.on.up || now - router.heardAt[key] >= 80) router.forget(i);
        }
    }

    private void makeOwnAdvert(Box box) {
        Router router = box.router;
        Base base = router.base;
        int own = base.number[box.number];
        if (own != 0 && now < base.madeAt + 10) return;
        boolean due = own == 0 || base.greatest > own || now - base.madeAt >= 2000;
        if (!due && !router.tellsAnew) return;
        router.draftAdvert(box, netCount);
        router.tellsAnew = false;
        if (!due && base.tellsDraft(box.number)) return;
        base.greatest++;
        base.madeAt = now;
        base.takeDraft(box.number, base.greatest, now);
        router.setDueToAll(box.number, -1, now);
    }

    private void sendGreetings(Box box) {
        Router router = box.router;
        for (int p = 0; p < box.portCount; p++) {
            Port port = box.ports[p];
            if (!port.on.up) continue;
            made.begin(GREETING, 8);
            int named = 0;
            for (int i = 0; i < router.heardCount; i++) {
                if (router.heard[i] / MOST_BOXES != port.index) continue;
                made.put2(8 + 2 * named, router.heard[i] % MOST_BOXES);
                named++;
            }
            made.put2(0, box.number);
            made.put2(2, named);
            made.setLength(8 + 2 * named);
            made.source = port.address;
            made.goal = 0;
            made.number = box.nextNumber();
            putOn(port, -1, made);
        }
    }

    private void sendThanks(Box box) {
        Router router = box.router;
        for (int i = 0; i < router.thankCount; i++) {
            made.begin(THANKING, 8);
            made.put2(0, router.thankRouter[i]);
            made.put4(2, router.thankNumber[i]);
            Port there = addressToFriend(box, router.thankKey[i]);
            if (there != null) hand(box.ports[router.thankKey[i] / MOST_BOXES], there.station, made);
        }
        router.thankCount = 0;
    }

    private void sendDue(Box box) {
        Router router = box.router;
        for (int i = 0; i < router.heardCount; i++) {
            int key = router.heard[i];
            for (int r = 0; r < MOST_BOXES; r++) {
                int at = router.dueAt[key][r];
                if (at == 0 || at > now) continue;
                router.base.putAdvert(made, r);
                Port there = addressToFriend(box, key);
                if (there != null) hand(box.ports[key / MOST_BOXES], there.station, made);
                router.setDue(key, r, now + 15);
            }
        }
    }

    /** Makes a datagram one for a router on a port: the port of that router there. */
    private Port addressToFriend(Box box, int key) {
        Port port = box.ports[key / MOST_BOXES];
        Port there = boxes[key % MOST_BOXES].portOn(port.on.number);
        if (there == null) return null;
        made.source = port.address;
        made.goal = there.address;
        made.number = box.nextNumber();
        return there;
    }

    /** The router that sent what came over a port, as a key, or -1. */
    private int senderKey(Port port, Parcel parcel) {
        Port sender = portOfAddress(parcel.source);
        if (sender == null || sender.on != port.on || !sender.owner.routes) return -1;
        return sender.owner == port.owner ? -1 : keyOf(port, sender.owner.number);
    }

    private void takeGreeting(Port port, Parcel parcel) {
        Router router = port.owner.router;
        int key = senderKey(port, parcel);
        if (key < 0) return;
        boolean named = false;
        int names = Math.min(parcel.get2(2), MOST_HEARD);
        for (int i = 0; i < names; i++) {
            if (parcel.get2(8 + 2 * i) == port.owner.number) named = true;
        }
        if (router.heardAt[key] == 0) {
            if (router.heardCount >= MOST_HEARD) {
                stir();
                return;
            }
            router.beginHearing(key);
        }
        router.heardAt[key] = now;
        router.setFriend(key, named, now);
    }

    private void takeAdvert(Port port, Parcel parcel) {
        Router router = port.owner.router;
        int key = senderKey(port, parcel);
        if (key < 0 || !router.friend[key]) return;
        int of = parcel.get2(0);
        int number = parcel.get4(2);
        if (of >= MOST_BOXES) return;
        if (!router.addThanks(key, of, number)) stir();
        int known = router.base.number[of];
        if (number < known) {
            router.setDue(key, of, now);
            return;
        }
        router.setDue(key, of, 0);
        if (number == known) return;
        if (of == port.owner.number) {
            router.base.greatest = Math.max(router.base.greatest, number);
            return;
        }
        router.base.takeAdvert(parcel, of, number, now);
        router.setDueToAll(of, key, now);
    }

    private void takeThanking(Port port, Parcel parcel) {
        Router router = port.owner.router;
        int key = senderKey(port, parcel);
        int of = parcel.get2(0);
        if (key < 0 || of >= MOST_BOXES) return;
        if (router.base.number[of] == parcel.get4(2)) router.setDue(key, of, 0);
    }

    // ---------------------------------------------------------------- hosts

    private void doHost(Box host) {
        for (int d = 0; d < MOST_DOORS; d++) {
            Door door = host.doors[d];
            if (door.use != WITH_END) continue;
            End end = door.end;
            end.ring(now);
            // more than the rows of one end can ever make at once
            for (int i = 0; i < 4 * ROW; i++) {
                if (!end.makeNext(made, now)) break;
                addressSegment(host, door);
                sendOff(host, made);
            }
            settle(door);
        }
    }

    private void addressSegment(Box host, Door door) {
        Port own = host.ports[0];
        made.source = own == null ? 0 : own.address;
        made.goal = door.peer;
        made.put2(0, door.portNumber);
        made.put2(2, door.peerPort);
        made.number = host.nextNumber();
        made.maker = door.end.maker;
    }

    /** What is done behind a door's turn. */
    private void settle(Door door) {
        End end = door.end;
        if (door.drains) {
            for (int i = 0; i < ROW && end.in.length > 0; i++) door.drainTold = 31 * door.drainTold + takeByte(door);
        }
        if (end.in.length > 0) stir();
        end.armProbe(now);
        if (!door.came) return;
        if (end.state == LISTENING || end.isDead() && !door.told) door.setUnused();
    }

    private void takeSegment(Port port, Parcel segment) {
        Box host = port.owner;
        segment.readHead();
        int own = segment.get2(2);
        int other = segment.get2(0);
        Door door = host.liveDoor(own, segment.source, other);
        if (door == null && (segment.flags & (OPEN | RESET | THANKS)) == OPEN) {
            int listener = host.listenerAt(own);
            if (listener >= 0) {
                door = host.doorThrough(listener);
                if (door == null) return;
                door.giveEnd(own, segment.source, other);
                door.came = true;
                door.through = listener;
                ends++;
                door.end.begin(firstNumber(host), port.on.largest - 40, ends);
            }
        }
        if (door == null) resetStranger(port, segment);
        else if (door.end.state == LISTENING) door.end.takeListening(segment);
        else if (door.end.state == ASKING) door.end.takeAsking(segment, now);
        else if (door.end.goesOn(segment, now)) door.end.takeRest(segment, now);
    }

    private void resetStranger(Port port, Parcel segment) {
        if (segment.has(RESET)) return;
        made.beginSegment(segment.resetFlags(), segment.resetNumber(), segment.resetThanked(), 0);
        made.source = port.address;
        made.goal = segment.source;
        made.put2(0, segment.get2(2));
        made.put2(2, segment.get2(0));
        made.number = port.owner.nextNumber();
        answerDue = true;
    }

    private void abandonThrough(Box host, int listener) {
        for (int d = 0; d < MOST_DOORS; d++) {
            Door door = host.doors[d];
            if (door.use != WITH_END || door.through != listener) continue;
            door.through = -1;
            if (!door.told && !door.end.isDead()) door.end.abortByOwner();
        }
    }

    private void wroteTo(Door door) {
        door.end.armProbe(now);
        stir();
    }

    private void noteWriting(End end, int size, long bytes) {
        if (writings >= MOST_WRITINGS) return;
        writer[writings] = end.maker;
        writtenSize[writings] = size;
        writtenBytes[writings] = bytes;
        writings++;
    }

    private int takeByte(Door door) {
        int value = door.end.takeByte();
        if (value != nextWritten(door)) strayCount++;
        return value;
    }

    /** The next byte that was written at the other end, for the reader at a door; -1 without one. */
    private int nextWritten(Door door) {
        for (int i = door.writing; i < writings; i++) {
            if (i != door.writing) {
                door.writing = i;
                door.inWriting = 0;
            }
            int size = writtenSize[i] & (FILLED - 1);
            if (writer[i] != door.end.peerMaker || door.inWriting >= size) continue;
            int at = door.inWriting;
            door.inWriting++;
            if (writtenSize[i] < FILLED) return (int) (writtenBytes[i] >>> (8 * (size - 1 - at))) & 255;
            int step = (int) (writtenBytes[i] >>> 8) & 255;
            return (int) writtenBytes[i] + at * step & 255;
        }
        return -1;
    }

    // ---------------------------------------------------------------- nets and ports

    /** A net with its stations and its schedule. */
    private static final class Net {
        private final int number;
        private int largest;
        private int delay;
        private boolean up = true;
        private final byte[] schedule = new byte[MOST_FATES];
        private int firstFate;
        private int fateCount;
        private final Port[] stations = new Port[MOST_STATIONS];
        private int stationCount;
        private int putCount;
        private int arrivedCount;

        private Net(int number) {
            this.number = number;
        }

        private void addFate(int fate) {
            if (fateCount >= MOST_FATES) return;
            schedule[firstFate + fateCount & (MOST_FATES - 1)] = (byte) fate;
            fateCount++;
        }

        private int nextFate() {
            if (fateCount == 0) return 0;
            int fate = schedule[firstFate];
            firstFate = firstFate + 1 & (MOST_FATES - 1);
            fateCount--;
            return fate;
        }

        private int addressOf(int station) {
            return (10 << 24) + (number << 16) + station + 1;
        }

        private int leastRouter() {
            for (int s = 0; s < stationCount; s++) {
                if (stations[s].owner.routes) return s;
            }
            return -1;
        }
    }

    /** A box's port on a net: whom it knows there, whom it asks for, and what waits for them. */
    private static final class Port {
        private final Box owner;
        private final Net on;
        private final int index;
        private final int station;
        private final int address;
        private int toll = 10;
        private final int[] heardAt = new int[MOST_STATIONS];
        private final int[] askedAt = new int[MOST_STATIONS];
        private final int[] asked = new int[MOST_STATIONS];
        private int askedCount;
        private final int[] remembered = new int[MOST_STATIONS];
        private final Parcel[] waiting = new Parcel[MOST_WAITING + 1];
        private int waitCount;

        private Port(Box owner, Net on, int index, int station) {
            this.owner = owner;
            this.on = on;
            this.index = index;
            this.station = station;
            this.address = (10 << 24) + (on.number << 16) + station + 1;
            for (int i = 0; i < waiting.length; i++) waiting[i] = new Parcel();
        }

        private boolean knows(int other, int now) {
            return heardAt[other] > 0 && now - heardAt[other] <= 2500;
        }

        private boolean isAsked(int other) {
            return askedAt[other] > 0;
        }

        private void beginAsking(int other, int now) {
            if (askedCount >= MOST_STATIONS) return;
            askedAt[other] = now;
            asked[askedCount] = other;
            askedCount++;
        }

        private void endAsking(int other) {
            askedAt[other] = 0;
            int kept = 0;
            for (int i = 0; i < askedCount; i++) {
                if (asked[i] == other) continue;
                asked[kept] = asked[i];
                kept++;
            }
            askedCount = kept;
        }

        // the askings may end while they are gone through
        private int rememberAsked() {
            for (int i = 0; i < askedCount; i++) remembered[i] = asked[i];
            return askedCount;
        }

        private void letWait(Parcel parcel, int other) {
            if (waitCount >= waiting.length) return;
            Parcel kept = waiting[waitCount];
            kept.copyPart(parcel, 0, parcel.length);
            kept.to = other;
            waitCount++;
        }

        private int firstWaitingFor(int other) {
            for (int i = 0; i < waitCount; i++) {
                if (waiting[i].to == other) return i;
            }
            return -1;
        }

        private int countWaitingFor(int other) {
            int found = 0;
            for (int i = 0; i < waitCount; i++) {
                if (waiting[i].to == other) found++;
            }
            return found;
        }

        /** Takes one out of the row; it is good until the next one is let wait. */
        private Parcel takeWaiting(int at) {
            Parcel taken = waiting[at];
            for (int i = at; i + 1 < waitCount; i++) waiting[i] = waiting[i + 1];
            waitCount--;
            waiting[waitCount] = taken;
            return taken;
        }
    }

    // ---------------------------------------------------------------- datagrams

    /** A datagram or a piece of one, and what is told of it while it is in a frame or waits. */
    private static final class Parcel {
        private int source;
        private int goal;
        private int kind;
        private int number;
        private int lives;
        private int offset;
        private int length;
        private int whole;
        private final byte[] load = new byte[MOST_LOAD];
        private int maker;
        private int cameOver;
        // in a frame: -1 is for all others; in a row of waiting ones: the station that is asked for
        private int to;
        private int net;
        private int from;
        private Parcel behind;
        // a segment's head, behind readHead()
        private int flags;
        private int first;
        private int thanked;
        private int window;
        private int ownLargest;

        private void begin(int newKind, int size) {
            kind = newKind;
            lives = newKind == ERROR || newKind == STREAM ? 64 : 1;
            offset = 0;
            maker = 0;
            cameOver = 0;
            length = size;
            whole = size;
        }

        private void setLength(int size) {
            length = size;
            whole = size;
        }

        private void copyPart(Parcel other, int at, int size) {
            source = other.source;
            goal = other.goal;
            kind = other.kind;
            number = other.number;
            lives = other.lives;
            maker = other.maker;
            cameOver = other.cameOver;
            whole = other.whole;
            offset = other.offset + at;
            length = size;
            if (at >= 0 && size > 0 && at + size <= MOST_LOAD) System.arraycopy(other.load, at, load, 0, size);
        }

        private void put2(int at, int value) {
            if (at < 0 || at + 2 > MOST_LOAD) return;
            load[at] = (byte) (value >> 8);
            load[at + 1] = (byte) value;
        }

        private void put4(int at, int value) {
            if (at < 0 || at + 4 > MOST_LOAD) return;
            for (int i = 0; i < 4; i++) load[at + i] = (byte) (value >> 24 - 8 * i);
        }

        private int get2(int at) {
            if (at < 0 || at + 2 > MOST_LOAD) return 0;
            return (load[at] & 255) << 8 | load[at + 1] & 255;
        }

        private int get4(int at) {
            return get2(at) << 16 | get2(at + 2);
        }

        private void beginSegment(int newFlags, int newFirst, int newThanked, int newWindow) {
            begin(STREAM, SEGMENT_HEAD);
            put4(4, newFirst);
            put4(8, newThanked);
            put2(12, newFlags);
            put2(14, newWindow);
            put2(16, 0);
        }

        private void readHead() {
            first = get4(4);
            thanked = get4(8);
            flags = get2(12);
            window = get2(14);
            ownLargest = get2(16);
        }

        private boolean has(int flag) {
            return (flags & flag) != 0;
        }

        private int bytes() {
            return Math.max(0, whole - SEGMENT_HEAD);
        }

        private int size() {
            int size = whole > SEGMENT_HEAD ? whole - SEGMENT_HEAD : 0;
            if ((flags & OPEN) != 0) size++;
            return (flags & LAST) != 0 ? size + 1 : size;
        }

        // the reset that answers this segment
        private int resetFlags() {
            return has(THANKS) ? RESET : RESET | THANKS;
        }

        private int resetNumber() {
            return has(THANKS) ? thanked : 0;
        }

        private int resetThanked() {
            return has(THANKS) ? 0 : first + size();
        }
    }

    // ---------------------------------------------------------------- boxes

    /** A host or a router. */
    private static final class Box {
        private final int number;
        private final boolean routes;
        private final Port[] ports = new Port[MOST_PORTS];
        private int portCount;
        // by what count() asks for: 2 made, 3 got, 4 forwarded, 5 pieces, 6 put together, 7 errors
        private final int[] tally = new int[8];
        private final Parcel[] partial = new Parcel[MOST_PARTIAL];
        private final long[][] came = new long[MOST_PARTIAL][3];
        private final int[] since = new int[MOST_PARTIAL];
        // 0: nothing waits there; otherwise rising with the first pieces' coming
        private final int[] order = new int[MOST_PARTIAL];
        private int orders;
        private final Router router;
        private final Door[] doors;
        private int opened;

        private Box(int number, boolean routes) {
            this.number = number;
            this.routes = routes;
            for (int i = 0; i < MOST_PARTIAL; i++) partial[i] = new Parcel();
            router = routes ? new Router(number) : null;
            doors = new Door[routes ? 0 : MOST_DOORS];
            for (int d = 0; d < doors.length; d++) doors[d] = new Door();
        }

        private int nextNumber() {
            tally[2]++;
            return tally[2] - 1;
        }

        private Port portOn(int net) {
            for (int p = 0; p < portCount; p++) {
                if (ports[p].on.number == net) return ports[p];
            }
            return null;
        }

        private boolean hasAddress(int address) {
            for (int p = 0; p < portCount; p++) {
                if (ports[p].address == address) return true;
            }
            return false;
        }

        private int netsUp() {
            int up = 0;
            for (int p = 0; p < portCount; p++) {
                if (ports[p].on.up) up |= 1 << ports[p].on.number;
            }
            return up;
        }

        private int partialFor(Parcel piece) {
            for (int i = 0; i < MOST_PARTIAL; i++) {
                Parcel other = partial[i];
                if (order[i] == 0 || other.source != piece.source || other.goal != piece.goal) continue;
                if (other.kind == piece.kind && other.number == piece.number) return i;
            }
            return -1;
        }

        private int emptyPartial() {
            for (int i = 0; i < MOST_PARTIAL; i++) {
                if (order[i] == 0) return i;
            }
            return -1;
        }

        private int earliestPartial() {
            int earliest = 0;
            for (int i = 1; i < MOST_PARTIAL; i++) {
                if (order[i] < order[earliest]) earliest = i;
            }
            return earliest;
        }

        private void beginPartial(int slot, Parcel piece, int now) {
            Parcel kept = partial[slot];
            kept.copyPart(piece, 0, 0);
            kept.offset = 0;
            kept.length = piece.whole;
            for (int i = 0; i < 3; i++) came[slot][i] = 0;
            since[slot] = now;
            orders++;
            order[slot] = orders;
        }

        /** Adds a piece to what waits: whether all has come. Pieces begin at multiples of 8 bytes. */
        private boolean addPiece(int slot, Parcel piece) {
            Parcel kept = partial[slot];
            int behind = Math.min(piece.offset + piece.length, Math.min(kept.whole, MOST_LOAD));
            for (int at = Math.max(0, piece.offset); at < behind; at += 8) {
                int unit = at / 8;
                if ((came[slot][unit / 64] >>> (unit % 64) & 1) != 0) continue;
                came[slot][unit / 64] |= 1L << (unit % 64);
                System.arraycopy(piece.load, at - piece.offset, kept.load, at, Math.min(8, behind - at));
            }
            int units = 0;
            for (int i = 0; i < 3; i++) units += Long.bitCount(came[slot][i]);
            return units * 8 >= kept.whole;
        }

        private int unusedDoor() {
            for (int d = 0; d < doors.length; d++) {
                if (doors[d].use == UNUSED) return d;
            }
            return -1;
        }

        private int listenerAt(int portNumber) {
            for (int d = 0; d < doors.length; d++) {
                if (doors[d].use == LISTENS && doors[d].portNumber == portNumber) return d;
            }
            return -1;
        }

        private Door liveDoor(int portNumber, int peer, int peerPort) {
            for (int d = 0; d < doors.length; d++) {
                if (doors[d].isFor(portNumber, peer, peerPort) && !doors[d].end.isDead()) return doors[d];
            }
            return null;
        }

        /** A free door for a stream that comes through one that listens; null if that may have no more. */
        private Door doorThrough(int listener) {
            int answering = 0;
            for (int d = 0; d < doors.length; d++) {
                Door door = doors[d];
                if (door.use == WITH_END && door.through == listener && door.end.state == ANSWERING) answering++;
            }
            int free = unusedDoor();
            return free < 0 || answering >= doors[listener].backlog ? null : doors[free];
        }
    }

    // ---------------------------------------------------------------- a router's neighbours and adverts

    /** A router's neighbours, and what it owes them; one on a port bears the key 16 * port + router. */
    private static final class Router {
        private final int[] heard = new int[MOST_HEARD];
        private int heardCount;
        private final int[] heardAt = new int[MOST_PORTS * MOST_BOXES];
        private final boolean[] friend = new boolean[MOST_PORTS * MOST_BOXES];
        // 0: the advert is not due; otherwise the tick in which it is to be sent
        private final int[][] dueAt = new int[MOST_PORTS * MOST_BOXES][MOST_BOXES];
        private int dueCount;
        private final int[] thankKey = new int[MOST_THANKS];
        private final int[] thankRouter = new int[MOST_THANKS];
        private final int[] thankNumber = new int[MOST_THANKS];
        private int thankCount;
        private boolean tellsAnew = true;
        private int seenWorld;
        private final Base base;

        private Router(int self) {
            base = new Base(self);
        }

        /** The heard ones stand by rising keys, so that all goes by ports and then routers. */
        private void beginHearing(int key) {
            if (heardCount >= MOST_HEARD) return;
            int at = heardCount;
            while (at > 0 && heard[at - 1] > key) {
                heard[at] = heard[at - 1];
                at--;
            }
            heard[at] = key;
            heardCount++;
        }

        private void forget(int at) {
            int key = heard[at];
            for (int i = at; i + 1 < heardCount; i++) heard[i] = heard[i + 1];
            heardCount--;
            heardAt[key] = 0;
            setFriend(key, false, 0);
        }

        private void setFriend(int key, boolean named, int now) {
            if (friend[key] == named) return;
            friend[key] = named;
            tellsAnew = true;
            for (int r = 0; r < MOST_BOXES; r++) setDue(key, r, named && base.number[r] != 0 ? now : 0);
        }

        private void setDue(int key, int of, int at) {
            if (dueAt[key][of] != 0) dueCount--;
            dueAt[key][of] = at;
            if (at != 0) dueCount++;
        }

        private void setDueToAll(int of, int butKey, int now) {
            for (int i = 0; i < heardCount; i++) {
                if (heard[i] != butKey && friend[heard[i]]) setDue(heard[i], of, now);
            }
        }

        private void clearDueOf(int of) {
            for (int i = 0; i < heardCount; i++) setDue(heard[i], of, 0);
        }

        private boolean addThanks(int key, int of, int number) {
            if (thankCount >= MOST_THANKS) return false;
            thankKey[thankCount] = key;
            thankRouter[thankCount] = of;
            thankNumber[thankCount] = number;
            thankCount++;
            return true;
        }

        /** Writes down what the router would tell now. */
        private void draftAdvert(Box box, int netCount) {
            base.draftSize = 0;
            for (int n = 0; n < netCount; n++) {
                Port port = box.portOn(n);
                if (port != null && port.on.up) base.addToDraft(0, n, port.toll);
            }
            for (int n = 0; n < netCount; n++) {
                Port port = box.portOn(n);
                if (port != null) draftFriends(port);
            }
        }

        private void draftFriends(Port port) {
            for (int i = 0; i < heardCount; i++) {
                int key = heard[i];
                if (key / MOST_BOXES != port.index || !friend[key]) continue;
                base.addToDraft(key % MOST_BOXES + 1, port.on.number, port.toll);
            }
        }
    }

    /** A router's base of adverts, and the ways that it finds by them. */
    private static final class Base {
        private final int self;
        // 0: there is none of that router
        private final int[] number = new int[MOST_BOXES];
        private final int[] cameAt = new int[MOST_BOXES];
        private final int[] size = new int[MOST_BOXES];
        private final int[][] entries = new int[MOST_BOXES][MOST_ENTRIES];
        private final int[] draft = new int[MOST_ENTRIES];
        private int draftSize;
        private int madeAt;
        private int greatest;
        private boolean waysAnew = true;
        private final int[] wayCost = new int[MOST_NETS];
        private final int[] wayNext = new int[MOST_NETS];
        private final int[] wayOver = new int[MOST_NETS];
        private final int[] distance = new int[MOST_BOXES];
        private final boolean[] reached = new boolean[MOST_BOXES];
        // with which friend a least way to a router begins, as 16 * net + router; -1: it is the router itself
        private final int[] hop = new int[MOST_BOXES];

        private Base(int self) {
            this.self = self;
            for (int n = 0; n < MOST_NETS; n++) {
                wayCost[n] = NONE;
                wayNext[n] = NONE;
                wayOver[n] = NONE;
            }
        }

        // an entry as one number: the friend and one (0 for a port), the net, the cost
        private static int friendOf(int entry) {
            return (entry >> 20) - 1;
        }

        private static int netOfEntry(int entry) {
            return entry >> 12 & 255;
        }

        private static int tollOf(int entry) {
            return entry & 4095;
        }

        private void addToDraft(int friendAndOne, int net, int toll) {
            if (draftSize >= MOST_ENTRIES) return;
            draft[draftSize] = friendAndOne << 20 | net << 12 | toll;
            draftSize++;
        }

        private boolean tellsDraft(int of) {
            if (size[of] != draftSize) return false;
            for (int i = 0; i < draftSize; i++) {
                if (entries[of][i] != draft[i]) return false;
            }
            return true;
        }

        private void takeDraft(int of, int newNumber, int now) {
            number[of] = newNumber;
            cameAt[of] = now;
            size[of] = draftSize;
            for (int i = 0; i < draftSize; i++) entries[of][i] = draft[i];
            waysAnew = true;
        }

        private void takeAdvert(Parcel parcel, int of, int newNumber, int now) {
            draftSize = 0;
            int told = Math.min(parcel.get2(6), MOST_ENTRIES);
            for (int i = 0; i < told; i++) {
                int at = 12 + 6 * i;
                addToDraft(parcel.get2(at), parcel.get2(at + 2), parcel.get2(at + 4));
            }
            takeDraft(of, newNumber, now);
        }

        private void putAdvert(Parcel parcel, int of) {
            parcel.begin(ADVERT, 12 + 6 * size[of]);
            parcel.put2(0, of);
            parcel.put4(2, number[of]);
            parcel.put2(6, size[of]);
            for (int i = 0; i < size[of]; i++) {
                int at = 12 + 6 * i;
                parcel.put2(at, friendOf(entries[of][i]) + 1);
                parcel.put2(at + 2, netOfEntry(entries[of][i]));
                parcel.put2(at + 4, tollOf(entries[of][i]));
            }
        }

        private void takeOut(int of) {
            number[of] = 0;
            size[of] = 0;
            waysAnew = true;
        }

        private void findWays(Box box, int netCount) {
            waysAnew = false;
            findDistances();
            for (int n = 0; n < netCount; n++) {
                Port own = box.portOn(n);
                if (own != null && own.on.up) setWay(n, own.toll, self, n);
                else findFarWay(n);
            }
        }

        private void setWay(int net, int toll, int next, int over) {
            wayCost[net] = toll;
            wayNext[net] = next;
            wayOver[net] = over;
        }

        private void findFarWay(int net) {
            int best = FAR;
            int begin = -1;
            for (int r = 0; r < MOST_BOXES; r++) {
                if (distance[r] == FAR) continue;
                int toll = portToll(r, net);
                if (toll == 0 || distance[r] + toll > best) continue;
                // the router itself, with its -1, is less than every friend, and makes the way none
                begin = distance[r] + toll < best ? hop[r] : Math.min(begin, hop[r]);
                best = distance[r] + toll;
            }
            if (begin < 0) setWay(net, NONE, NONE, NONE);
            else setWay(net, best, begin % MOST_BOXES, begin / MOST_BOXES);
        }

        /** The cost that a router's advert tells of its port on a net; 0 without one. */
        private int portToll(int of, int net) {
            for (int i = 0; i < size[of]; i++) {
                int entry = entries[of][i];
                if (friendOf(entry) < 0 && netOfEntry(entry) == net) return tollOf(entry);
            }
            return 0;
        }

        private boolean tellsOfFriend(int of, int other, int net) {
            for (int i = 0; i < size[of]; i++) {
                if (friendOf(entries[of][i]) == other && netOfEntry(entries[of][i]) == net) return true;
            }
            return false;
        }

        private void findDistances() {
            for (int r = 0; r < MOST_BOXES; r++) {
                distance[r] = FAR;
                reached[r] = false;
                hop[r] = -1;
            }
            distance[self] = 0;
            for (int round = 0; round < MOST_BOXES; round++) {
                int nearest = -1;
                for (int r = 0; r < MOST_BOXES; r++) {
                    if (reached[r] || distance[r] == FAR) continue;
                    if (nearest < 0 || distance[r] < distance[nearest]) nearest = r;
                }
                if (nearest < 0) break;
                reached[nearest] = true;
                goOnFrom(nearest);
            }
        }

        private void goOnFrom(int router) {
            for (int i = 0; i < size[router]; i++) {
                int entry = entries[router][i];
                int to = friendOf(entry);
                int net = netOfEntry(entry);
                if (to < 0 || to >= MOST_BOXES || reached[to] || !tellsOfFriend(to, router, net)) continue;
                int far = distance[router] + tollOf(entry);
                int begin = router == self ? net * MOST_BOXES + to : hop[router];
                if (far > distance[to] || far == distance[to] && begin >= hop[to]) continue;
                distance[to] = far;
                hop[to] = begin;
            }
        }
    }

    // ---------------------------------------------------------------- doors and the ends of streams

    /** A host's door. */
    private static final class Door {
        private int use;
        private int portNumber;
        private int peer;
        private int peerPort;
        private int backlog;
        private int through = -1;
        private boolean came;
        private boolean told;
        private boolean drains;
        private int drainTold = 1;
        // where the reader stands in what was written at the other end
        private int writing;
        private int inWriting;
        private final End end = new End();

        private void setUnused() {
            use = UNUSED;
            portNumber = 0;
            peer = 0;
            peerPort = 0;
            through = -1;
            came = false;
        }

        private void startListening(int port, int most) {
            use = LISTENS;
            portNumber = port;
            backlog = most;
        }

        private void giveEnd(int port, int address, int otherPort) {
            use = WITH_END;
            portNumber = port;
            peer = address;
            peerPort = otherPort;
            through = -1;
            came = false;
            told = false;
            drains = false;
            drainTold = 1;
            writing = 0;
            inWriting = 0;
        }

        private boolean isFor(int port, int address, int otherPort) {
            return use == WITH_END && portNumber == port && peer == address && peerPort == otherPort;
        }

        private boolean takesBytes() {
            return use == WITH_END && !end.out.closed && end.state != LISTENING && !end.isDead();
        }
    }

    /** What an end has to send: its OPEN, its bytes and its LAST, by their numbers. */
    private static final class Out {
        private final byte[] row = new byte[ROW];
        private int start;
        private int length;
        private int sent;
        private int first;
        private int oldest;
        private int next;
        private boolean openThanked;
        private boolean closed;
        private boolean lastSent;
        private boolean lastThanked;
        private int window;
        private int toldNumber;
        private int toldThanked;

        private void begin(int firstNumber) {
            start = 0;
            length = 0;
            sent = 0;
            first = firstNumber;
            oldest = firstNumber;
            next = firstNumber;
            openThanked = false;
            closed = false;
            lastSent = false;
            lastThanked = false;
            window = 0;
            toldNumber = 0;
            toldThanked = 0;
        }

        private void add(int value) {
            if (length >= ROW) return;
            row[start + length & ROW_MASK] = (byte) value;
            length++;
        }

        private boolean hasUnthanked() {
            return oldest != next;
        }

        private boolean hasNew() {
            return sent < length || closed && !lastSent;
        }

        private void thankTo(int thanked) {
            int numbers = thanked - oldest;
            oldest = thanked;
            if (!openThanked) {
                openThanked = true;
                numbers--;
            }
            int bytes = Math.max(0, Math.min(numbers, sent));
            start = start + bytes & ROW_MASK;
            length -= bytes;
            sent -= bytes;
            if (numbers > bytes && lastSent) lastThanked = true;
        }

        private void tellWindow(Parcel segment, int thanked) {
            window = segment.window;
            toldNumber = segment.first;
            toldThanked = thanked;
        }

        /** Puts bytes of the row, counted from its oldest one, into a segment. */
        private void putBytes(Parcel segment, int from, int size) {
            int fit = Math.max(0, Math.min(size, MOST_LOAD - SEGMENT_HEAD));
            for (int i = 0; i < fit; i++) segment.load[SEGMENT_HEAD + i] = row[start + from + i & ROW_MASK];
            segment.setLength(SEGMENT_HEAD + fit);
        }
    }

    /** What came to an end. */
    private static final class In {
        private final byte[] row = new byte[ROW];
        private final boolean[] came = new boolean[ROW];
        private int start;
        private int length;
        private int expected;
        private boolean lastKnown;
        private int lastNumber;
        private boolean over;

        private void begin() {
            start = 0;
            length = 0;
            expected = 0;
            lastKnown = false;
            lastNumber = 0;
            over = false;
            for (int i = 0; i < ROW; i++) came[i] = false;
        }

        private int room() {
            return ROW - length;
        }

        private boolean fits(int number, int size) {
            int ahead = number - expected;
            if (size == 0) return ahead == 0 || ahead > 0 && ahead < room();
            if (ahead >= 0) return ahead < room();
            return room() > 0 && ahead + size > 0;
        }

        /** Takes a segment's bytes and its LAST. */
        private void take(Parcel segment) {
            int room = room();
            int bytes = segment.bytes();
            int ahead = segment.first - expected;
            for (int i = 0; i < bytes; i++) {
                if (ahead + i < 0 || ahead + i >= room) continue;
                int at = start + length + ahead + i & ROW_MASK;
                if (came[at]) continue;
                came[at] = true;
                row[at] = segment.load[SEGMENT_HEAD + i];
            }
            if (segment.has(LAST) && !lastKnown && ahead + bytes >= 0 && ahead + bytes < room) {
                lastKnown = true;
                lastNumber = segment.first + bytes;
            }
            goOn();
        }

        private void goOn() {
            for (int i = 0; i <= ROW; i++) {
                if (lastKnown && expected == lastNumber) {
                    expected++;
                    over = true;
                    return;
                }
                int at = start + length & ROW_MASK;
                if (length >= ROW || !came[at]) return;
                came[at] = false;
                length++;
                expected++;
            }
        }

        private int takeByte() {
            if (length <= 0) return 0;
            int value = row[start] & 255;
            start = start + 1 & ROW_MASK;
            length--;
            return value;
        }
    }

    /** An end's alarm and its measuring. */
    private static final class Timer {
        // 0: off
        private int alarmAt;
        private int tries;
        private int wait;
        private int smooth;
        private int spread;
        private boolean measured;
        private boolean measuring;
        private int measuredNumber;
        private int measuredSince;

        private void begin() {
            alarmAt = 0;
            tries = 0;
            wait = 60;
            smooth = 0;
            spread = 0;
            measured = false;
            measuring = false;
        }

        private void sentNew(int behind, int now) {
            if (alarmAt == 0) alarmAt = now + wait;
            if (measuring) return;
            measuring = true;
            measuredNumber = behind;
            measuredSince = now;
        }

        private void thanked(int number, int now) {
            tries = 0;
            if (!measuring || isBefore(number, measuredNumber)) return;
            measuring = false;
            int ticks = now - measuredSince;
            if (measured) {
                int off = ticks - smooth / 8;
                smooth += off;
                spread += Math.abs(off) - spread / 4;
            } else {
                measured = true;
                smooth = 8 * ticks;
                spread = 2 * ticks;
            }
            wait = Math.max(20, Math.min(1200, smooth / 8 + Math.max(spread, 1)));
        }
    }

    /** An end of a stream. */
    private static final class End {
        private int state;
        private int largest;
        private int piece;
        private boolean listened;
        private int quietUntil;
        private boolean resetDue;
        private int resetFlags;
        private int resetNumber;
        private int resetThanked;
        private boolean openDue;
        private boolean openSent;
        private boolean againDue;
        private boolean probeDue;
        private boolean thanksDue;
        private int maker;
        private int peerMaker;
        private final Out out = new Out();
        private final In in = new In();
        private final Timer timer = new Timer();

        private void begin(int firstNumber, int largestPiece, int newMaker) {
            state = LISTENING;
            largest = largestPiece;
            listened = true;
            maker = newMaker;
            resetDue = false;
            beginAgain(firstNumber);
        }

        // a reset that is to be sent outlives this
        private void beginAgain(int firstNumber) {
            state = LISTENING;
            piece = largest;
            quietUntil = 0;
            openDue = false;
            openSent = false;
            againDue = false;
            probeDue = false;
            thanksDue = false;
            peerMaker = 0;
            out.begin(firstNumber);
            in.begin();
            timer.begin();
        }

        private void startAsking() {
            state = ASKING;
            listened = false;
            out.next = out.first + 1;
            openDue = true;
        }

        private boolean isDead() {
            return state == FREE || state == ABORTED;
        }

        private boolean sendsNew() {
            return state == ON || state == LEAVING || state >= ALONE && state <= ENDING;
        }

        private boolean takesIn() {
            return state == ON || state == LEAVING || state == LEFT;
        }

        /** The state becomes FREE, ABORTED or QUIET. */
        private void finish(int newState) {
            state = newState;
            openDue = false;
            againDue = false;
            probeDue = false;
            if (newState != QUIET) thanksDue = false;
            timer.alarmAt = 0;
        }

        private void becomeQuiet(int now) {
            finish(QUIET);
            quietUntil = now + 2000;
        }

        private void closeByOwner() {
            out.closed = true;
            if (state == LISTENING || state == ASKING) finish(FREE);
            else if (state == ON) state = LEAVING;
            else if (state == ALONE) state = ENDING;
        }

        private void abortByOwner() {
            if (state != LISTENING && state != ASKING && state != QUIET) {
                resetDue = true;
                resetFlags = RESET | THANKS;
                resetNumber = out.next;
                resetThanked = in.expected;
            }
            finish(ABORTED);
        }

        private int takeByte() {
            int enough = Math.min(piece, 1024);
            boolean narrow = in.room() < enough;
            int value = in.takeByte();
            if (narrow && in.room() >= enough && takesIn()) thanksDue = true;
            return value;
        }

        // ------------------------------------------------ the alarm

        private void ring(int now) {
            if (state == QUIET && now >= quietUntil) finish(FREE);
            if (timer.alarmAt == 0 || now < timer.alarmAt) return;
            timer.tries++;
            if (timer.tries > 8) {
                finish(ABORTED);
                return;
            }
            if (!out.hasUnthanked()) probeDue = true;
            else if (state == ASKING || state == ANSWERING) openDue = true;
            else againDue = true;
            timer.wait = Math.min(1200, 2 * timer.wait);
            timer.alarmAt = now + timer.wait;
        }

        /** Sets the alarm for a probe, if nothing but the peer's window keeps the end from sending. */
        private void armProbe(int now) {
            if (timer.alarmAt != 0 || !sendsNew() || out.hasUnthanked()) return;
            if (out.window == 0 && out.hasNew()) timer.alarmAt = now + timer.wait;
        }

        // ------------------------------------------------ a segment arrives

        private void resets(Parcel segment) {
            if (segment.has(RESET)) return;
            resetDue = true;
            resetFlags = segment.resetFlags();
            resetNumber = segment.resetNumber();
            resetThanked = segment.resetThanked();
        }

        private void takeOpen(Parcel segment) {
            int other = segment.ownLargest;
            in.expected = segment.first + 1;
            piece = Math.min(largest, other == 0 ? 536 : other);
            out.tellWindow(segment, segment.has(THANKS) ? segment.thanked : out.first);
            peerMaker = segment.maker;
        }

        private void takeListening(Parcel segment) {
            if (segment.has(RESET)) return;
            if (segment.has(THANKS)) {
                resets(segment);
                return;
            }
            if (!segment.has(OPEN)) return;
            takeOpen(segment);
            state = ANSWERING;
            out.next = out.first + 1;
            openDue = true;
        }

        private void takeAsking(Parcel segment, int now) {
            boolean thanks = segment.has(THANKS);
            if (thanks && segment.thanked != out.next) {
                resets(segment);
                return;
            }
            if (segment.has(RESET)) {
                if (thanks) finish(ABORTED);
                return;
            }
            if (!segment.has(OPEN)) return;
            takeOpen(segment);
            if (thanks) {
                state = ON;
                openDue = false;
                thankedTo(segment.thanked, now);
                thanksDue = true;
            } else {
                state = ANSWERING;
                openDue = true;
            }
        }

        /** A segment arrives in the states from ANSWERING on: whether what it thanks for and brings is looked at. */
        private boolean goesOn(Parcel segment, int now) {
            if (!in.fits(segment.first, segment.size())) {
                if (!segment.has(RESET)) thanksDue = true;
                if (state == QUIET && segment.has(LAST)) quietUntil = now + 2000;
                return false;
            }
            if (segment.has(RESET)) {
                if (segment.first == in.expected) takeReset();
                else thanksDue = true;
                return false;
            }
            if (segment.has(OPEN)) {
                thanksDue = true;
                return false;
            }
            if (!segment.has(THANKS)) return false;
            if (state == ANSWERING) {
                if (segment.thanked != out.next) {
                    resets(segment);
                    return false;
                }
                state = out.closed ? LEAVING : ON;
                openDue = false;
            } else if (isBefore(out.next, segment.thanked)) {
                thanksDue = true;
                return false;
            }
            return true;
        }

        private void takeReset() {
            if (state == ANSWERING && listened) beginAgain(out.first);
            else finish(state >= PARTING && state <= QUIET ? FREE : ABORTED);
        }

        private void takeRest(Parcel segment, int now) {
            int thanked = segment.thanked;
            if (isBefore(out.oldest, thanked)) thankedTo(thanked, now);
            takeWindow(segment, thanked);
            if (out.lastThanked) {
                if (state == LEAVING) state = LEFT;
                else if (state == PARTING) becomeQuiet(now);
                else if (state == ENDING) {
                    finish(FREE);
                    return;
                }
            }
            if (takesIn()) {
                in.take(segment);
                if (in.over) peerLeft(now);
            }
            if (segment.bytes() > 0 || segment.has(LAST)) thanksDue = true;
        }

        private void thankedTo(int thanked, int now) {
            out.thankTo(thanked);
            timer.thanked(thanked, now);
            timer.alarmAt = out.hasUnthanked() ? now + timer.wait : 0;
            againDue = false;
        }

        private void takeWindow(Parcel segment, int thanked) {
            int first = segment.first;
            if (isBefore(thanked, out.oldest)) return;
            boolean newer = isBefore(out.toldNumber, first)
                || out.toldNumber == first && !isBefore(thanked, out.toldThanked);
            if (!newer) return;
            boolean wasShut = out.window == 0;
            out.tellWindow(segment, thanked);
            if (out.window == 0 || wasShut) timer.tries = 0;
            if (out.window != 0 && wasShut) {
                probeDue = false;
                if (!out.hasUnthanked()) timer.alarmAt = 0;
            }
        }

        private void peerLeft(int now) {
            if (state == ON) state = ALONE;
            else if (state == LEAVING) state = PARTING;
            else becomeQuiet(now);
        }

        // ------------------------------------------------ what is sent

        /** Makes the next segment that is to be sent: whether there is one. */
        private boolean makeNext(Parcel segment, int now) {
            if (resetDue) {
                resetDue = false;
                segment.beginSegment(resetFlags, resetNumber, resetThanked, 0);
                return true;
            }
            if (openDue) {
                makeOpen(segment, now);
                return true;
            }
            if (againDue) {
                makeAgain(segment);
                return true;
            }
            if (sendsNew() && makeNew(segment, now)) return true;
            if (probeDue && makeProbe(segment, now)) return true;
            if (!thanksDue) return false;
            makeBytes(segment, out.next, 0, 0, false);
            return true;
        }

        private void makeOpen(Parcel segment, int now) {
            boolean answers = state == ANSWERING;
            openDue = false;
            segment.beginSegment(answers ? OPEN | THANKS : OPEN, out.first, answers ? in.expected : 0, in.room());
            segment.put2(16, largest);
            if (answers) thanksDue = false;
            if (openSent) timer.measuring = false;
            if (!openSent) timer.sentNew(out.next, now);
            else if (timer.alarmAt == 0) timer.alarmAt = now + timer.wait;
            openSent = true;
        }

        private void makeAgain(Parcel segment) {
            againDue = false;
            timer.measuring = false;
            int bytes = Math.min(out.sent, piece);
            boolean last = out.lastSent && !out.lastThanked && bytes == out.sent;
            makeBytes(segment, out.oldest, 0, bytes, last);
        }

        private boolean makeNew(Parcel segment, int now) {
            int allowed = Math.max(0, out.window - (out.next - out.oldest));
            int bytes = Math.min(out.length - out.sent, Math.min(piece, allowed));
            boolean last = out.closed && !out.lastSent && out.sent + bytes == out.length && allowed > bytes;
            if (bytes == 0 && !last) return false;
            goAhead(segment, bytes, last, now);
            return true;
        }

        private boolean makeProbe(Parcel segment, int now) {
            probeDue = false;
            if (!sendsNew() || !out.hasNew()) return false;
            boolean last = out.sent >= out.length;
            goAhead(segment, last ? 0 : 1, last, now);
            return true;
        }

        private void goAhead(Parcel segment, int bytes, boolean last, int now) {
            makeBytes(segment, out.next, out.sent, bytes, last);
            out.sent += bytes;
            out.next += last ? bytes + 1 : bytes;
            if (last) out.lastSent = true;
            timer.sentNew(out.next, now);
        }

        private void makeBytes(Parcel segment, int number, int from, int bytes, boolean last) {
            segment.beginSegment(last ? THANKS | LAST : THANKS, number, in.expected, in.room());
            out.putBytes(segment, from, bytes);
            thanksDue = false;
        }
    }
}
