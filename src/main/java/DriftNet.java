/** A net of drifting boats that tell each other which of them they can reach, and over whom. */
public final class DriftNet {
    private static final int BOATS = 8;
    private static final int PART_SIZE = 3;
    private static final int KEPT_CASTS = 16;
    private static final int MOST_UNDER_WAY = 16;
    private static final int MOST_AT_BOAT = 4;
    private static final int MOST_WORDS = 32;
    private static final int MOST_METRIC = 15;
    private static final int FORGOTTEN_AFTER = 6;

    // Both are -1 because that is what the face answers for them.
    private static final int NONE = -1;
    private static final int BROKEN = -1;

    private final Boat[] boats = new Boat[BOATS];
    private final Cast[] casts = new Cast[KEPT_CASTS];
    private final Packet[] packets = new Packet[MOST_UNDER_WAY];
    private int castCount = 0;
    private int packetCount = 0;
    private int now = 0;

    public DriftNet() {
        for (int i = 0; i < BOATS; i++) {
            boats[i] = new Boat(i);
        }
        for (int i = 0; i < KEPT_CASTS; i++) {
            casts[i] = new Cast();
        }
        for (int i = 0; i < MOST_UNDER_WAY; i++) {
            packets[i] = new Packet();
        }
    }

    public boolean on(int boat) throws IllegalArgumentException {
        return turn(boat, true);
    }

    public boolean off(int boat) throws IllegalArgumentException {
        return turn(boat, false);
    }

    public boolean link(int a, int b, boolean linked) throws IllegalArgumentException {
        needTwoBoats(a, b);
        if (boats[a].isLinkedTo(b) == linked) {
            return false;
        }
        boats[a].flipLinkTo(b);
        boats[b].flipLinkTo(a);
        return true;
    }

    public int cast(int boat, boolean full) throws IllegalArgumentException, IllegalStateException {
        needBoat(boat);
        needOn(boat);
        if (full) {
            boats[boat].entries[boat].renew();
        }
        int number = castCount;
        castCount++;
        keptAt(number).fill(boat, boats[boat].entries, full);
        return number;
    }

    public int parts(int cast) throws IllegalArgumentException {
        needCast(cast);
        return keptAt(cast).partCount();
    }

    public int entry(int cast, int part, int i, int what)
            throws IllegalArgumentException, IndexOutOfBoundsException {
        needPart(cast, part);
        if (what < 0 || what > 2) {
            throw new IllegalArgumentException("what is 0, 1 or 2");
        }
        Cast kept = keptAt(cast);
        if (i < 0 || i >= kept.sizeOfPart(part)) {
            throw new IndexOutOfBoundsException("the part has no such entry");
        }
        int row = part * PART_SIZE + i;
        if (what == 0) {
            return kept.goals[row];
        }
        return what == 1 ? kept.numbers[row] : kept.metrics[row];
    }

    public int hear(int cast, int part, int boat, boolean late)
            throws IllegalArgumentException, IllegalStateException {
        needPart(cast, part);
        needBoat(boat);
        needOn(boat);
        Cast kept = keptAt(cast);
        if (kept.sender == boat) {
            throw new IllegalStateException("the boat sent it");
        }
        if (!late && !boats[boat].isLinkedTo(kept.sender)) {
            throw new IllegalStateException("the boats are not linked");
        }
        return boats[boat].listenTo(kept, part, now);
    }

    public int tick() {
        now++;
        for (int i = 0; i < BOATS; i++) {
            if (boats[i].isOn) {
                boats[i].forgetSilent(now);
                boats[i].settleEntries(now);
            }
        }
        return now;
    }

    public int route(int boat, int goal, int what) throws IllegalArgumentException {
        needBoat(boat);
        needBoat(goal);
        Entry held = boats[boat].entries[goal];
        switch (what) {
            case 0:
                return held.next;
            case 1:
                return held.metric;
            case 2:
                return held.number;
            case 3:
                return held.shownMetric;
            case 4:
                return held.shownNumber;
            case 5:
                return held.mean;
            case 6:
                return held.waits ? 1 : 0;
            default:
                throw new IllegalArgumentException("what is 0 to 6");
        }
    }

    public boolean two(int a, int b) throws IllegalArgumentException {
        needBoat(a);
        needBoat(b);
        // No boat hears itself, so the same boat twice is false without more.
        return boats[a].hasHeard(b) && boats[b].hasHeard(a);
    }

    public int send(int from, int goal, int word) throws IllegalArgumentException, IllegalStateException {
        needTwoBoats(from, goal);
        needOn(from);
        if (boats[from].entries[goal].number == NONE) {
            throw new IllegalStateException("the boat has no entry for the goal");
        }
        if (packetsAt(from) >= MOST_AT_BOAT) {
            throw new IllegalStateException("too many packets are at the boat");
        }
        Packet free = freePacket();
        if (free == null) {
            throw new IllegalStateException("too many packets are under way");
        }
        int number = packetCount;
        packetCount++;
        free.start(number, from, goal, word);
        return number;
    }

    public int move(int packet) throws IllegalArgumentException, IllegalStateException {
        Packet moved = packetNumbered(packet);
        if (moved == null) {
            throw new IllegalArgumentException("no such packet is under way");
        }
        needOn(moved.at);
        if (!mayGoOn(moved)) {
            return moved.at;
        }
        Boat next = boats[boats[moved.at].entries[moved.goal].next];
        moved.goTo(next.self, next.entries[moved.goal]);
        if (moved.at != moved.goal) {
            return moved.at;
        }
        moved.underWay = false;
        next.keepWord(moved.word);
        return NONE;
    }

    public int waiting(int boat) throws IllegalArgumentException {
        needBoat(boat);
        return packetsAt(boat);
    }

    public int got(int boat, int k) throws IllegalArgumentException, IndexOutOfBoundsException {
        needBoat(boat);
        if (k < 0 || k >= boats[boat].wordCount) {
            throw new IndexOutOfBoundsException("the boat has got no such word");
        }
        return boats[boat].words[k];
    }

    public int circle(int goal) throws IllegalArgumentException {
        needBoat(goal);
        for (int i = 0; i < BOATS; i++) {
            int size = i == goal ? 0 : circleFrom(i, goal);
            if (size > 0) {
                return size;
            }
        }
        return 0;
    }

    public int best(int a, int b) throws IllegalArgumentException {
        needBoat(a);
        needBoat(b);
        if (!boats[a].isOn || !boats[b].isOn) {
            return NONE;
        }
        int reached = 1 << a;
        for (int links = 0; links < BOATS; links++) {
            if ((reached & 1 << b) != 0) {
                return links;
            }
            reached = oneLinkFurther(reached);
        }
        return NONE;
    }

    public int clock() {
        return now;
    }

    private static void needBoat(int boat) {
        if (boat < 0 || boat >= BOATS) {
            throw new IllegalArgumentException("there is no such boat");
        }
    }

    private static void needTwoBoats(int a, int b) {
        needBoat(a);
        needBoat(b);
        if (a == b) {
            throw new IllegalArgumentException("the boats are the same");
        }
    }

    private void needOn(int boat) {
        if (!boats[boat].isOn) {
            throw new IllegalStateException("the boat is off");
        }
    }

    private void needCast(int cast) {
        if (cast < 0 || cast >= castCount || cast < castCount - KEPT_CASTS) {
            throw new IllegalArgumentException("there is no such cast");
        }
    }

    private void needPart(int cast, int part) {
        needCast(cast);
        if (part < 0 || part >= keptAt(cast).partCount()) {
            throw new IllegalArgumentException("there is no such part");
        }
    }

    private boolean turn(int boat, boolean toOn) {
        needBoat(boat);
        boolean turned = boats[boat].isOn != toOn;
        boats[boat].isOn = toOn;
        return turned;
    }

    // The 16 latest casts take turns in the same rows, so that no call makes any.
    private Cast keptAt(int cast) {
        return casts[Math.floorMod(cast, KEPT_CASTS)];
    }

    private Packet packetNumbered(int number) {
        for (int i = 0; i < MOST_UNDER_WAY; i++) {
            if (packets[i].underWay && packets[i].number == number) {
                return packets[i];
            }
        }
        return null;
    }

    private Packet freePacket() {
        for (int i = 0; i < MOST_UNDER_WAY; i++) {
            if (!packets[i].underWay) {
                return packets[i];
            }
        }
        return null;
    }

    private int packetsAt(int boat) {
        int count = 0;
        for (int i = 0; i < MOST_UNDER_WAY; i++) {
            if (packets[i].underWay && packets[i].at == boat) {
                count++;
            }
        }
        return count;
    }

    private boolean mayGoOn(Packet packet) {
        Boat here = boats[packet.at];
        int next = here.entries[packet.goal].next;
        if (next == NONE || !boats[next].isOn || !here.isLinkedTo(next)) {
            return false;
        }
        return packet.isDrawnBy(boats[next].entries[packet.goal]) && hasRoom(next, packet.goal);
    }

    private boolean hasRoom(int boat, int goal) {
        if (boat == goal) {
            return boats[boat].wordCount < MOST_WORDS;
        }
        return packetsAt(boat) < MOST_AT_BOAT;
    }

    private int circleFrom(int start, int goal) {
        int at = start;
        for (int steps = 1; steps <= BOATS; steps++) {
            at = boats[at].entries[goal].next;
            if (at == NONE || at == goal) {
                return 0;
            }
            if (at == start) {
                return steps;
            }
        }
        return 0;
    }

    private int oneLinkFurther(int reached) {
        int further = reached;
        for (int i = 0; i < BOATS; i++) {
            if (boats[i].isOn && (boats[i].linkedBits & reached) != 0) {
                further |= 1 << i;
            }
        }
        return further;
    }

    private static final class Boat {
        final int self;
        final Entry[] entries = new Entry[BOATS];
        final int[] heardAt = new int[BOATS];
        final int[] words = new int[MOST_WORDS];
        int wordCount = 0;
        int linkedBits = 0;
        boolean isOn = false;

        Boat(int self) {
            this.self = self;
            for (int i = 0; i < BOATS; i++) {
                entries[i] = new Entry();
                heardAt[i] = NONE;
            }
            entries[self].startAsOwn(self);
        }

        boolean isLinkedTo(int other) {
            return (linkedBits & 1 << other) != 0;
        }

        void flipLinkTo(int other) {
            linkedBits ^= 1 << other;
        }

        boolean hasHeard(int other) {
            return heardAt[other] != NONE;
        }

        void keepWord(int word) {
            if (wordCount < MOST_WORDS) {
                words[wordCount] = word;
                wordCount++;
            }
        }

        int listenTo(Cast told, int part, int now) {
            heardAt[told.sender] = now;
            int taken = 0;
            int start = part * PART_SIZE;
            int end = start + told.sizeOfPart(part);
            for (int row = start; row < end; row++) {
                Entry own = entries[told.goals[row]];
                int number = told.numbers[row];
                int metric = told.metrics[row] == BROKEN ? BROKEN : told.metrics[row] + 1;
                if (told.goals[row] != self && own.isBetteredBy(number, metric)) {
                    own.take(number, metric, told.sender, now);
                    taken++;
                }
            }
            return taken;
        }

        void forgetSilent(int now) {
            for (int other = 0; other < BOATS; other++) {
                if (hasHeard(other) && now - heardAt[other] >= FORGOTTEN_AFTER) {
                    heardAt[other] = NONE;
                    loseWaysOver(other);
                }
            }
        }

        private void loseWaysOver(int other) {
            for (int goal = 0; goal < BOATS; goal++) {
                if (entries[goal].next == other) {
                    entries[goal].lose();
                }
            }
        }

        void settleEntries(int now) {
            for (int goal = 0; goal < BOATS; goal++) {
                entries[goal].settle(now);
            }
        }
    }

    /** What a boat knows of one goal, and what it shows of that; without a number there is none. */
    private static final class Entry {
        int number = NONE;
        int metric = BROKEN;
        int next = NONE;
        int shownNumber = NONE;
        int shownMetric = BROKEN;
        int first = 0;
        int mean = 0;
        boolean waits = false;
        boolean isFresh = false;

        void startAsOwn(int self) {
            number = 0;
            metric = 0;
            next = self;
            show();
        }

        void renew() {
            number += 2;
            show();
        }

        boolean isBetteredBy(int toldNumber, int toldMetric) {
            if (toldMetric > MOST_METRIC) {
                return false;
            }
            if (number == NONE) {
                return toldMetric != BROKEN;
            }
            if (toldNumber != number) {
                return toldNumber > number;
            }
            // Only what was lost has an odd number, so one number is never broken here and whole there.
            return toldMetric != BROKEN && toldMetric < metric;
        }

        void take(int toldNumber, int toldMetric, int sender, int now) {
            if (toldNumber == number) {
                mean = (3 * mean + 4 * (now - first)) / 4;
            } else if (toldMetric != BROKEN) {
                first = now;
            }
            number = toldNumber;
            metric = toldMetric;
            next = toldMetric == BROKEN ? NONE : sender;
            if (isShownAtOnce()) {
                show();
            } else {
                waits = true;
            }
        }

        // Where no entry is shown yet, the shown metric is BROKEN too.
        private boolean isShownAtOnce() {
            return metric == BROKEN || shownMetric == BROKEN || metric <= shownMetric || mean == 0;
        }

        void lose() {
            number++;
            metric = BROKEN;
            next = NONE;
            show();
        }

        void settle(int now) {
            if (waits && 4 * (now - first) >= 2 * mean) {
                show();
            }
        }

        // What is shown only ever gets newer or shorter, so to show is always to change.
        private void show() {
            shownNumber = number;
            shownMetric = metric;
            waits = false;
            isFresh = true;
        }
    }

    /** The rows that a boat told at once. */
    private static final class Cast {
        final int[] goals = new int[BOATS];
        final int[] numbers = new int[BOATS];
        final int[] metrics = new int[BOATS];
        int sender = 0;
        int size = 0;

        void fill(int from, Entry[] entries, boolean full) {
            sender = from;
            size = 0;
            for (int goal = 0; goal < BOATS; goal++) {
                Entry told = entries[goal];
                if (told.isFresh || full && told.shownNumber != NONE) {
                    goals[size] = goal;
                    numbers[size] = told.shownNumber;
                    metrics[size] = told.shownMetric;
                    size++;
                }
                told.isFresh = false;
            }
        }

        int partCount() {
            return size == 0 ? 1 : (size + PART_SIZE - 1) / PART_SIZE;
        }

        int sizeOfPart(int part) {
            return Math.min(PART_SIZE, size - part * PART_SIZE);
        }
    }

    /** A word on its way; one that is not under way is free for the next. */
    private static final class Packet {
        boolean underWay = false;
        int number = 0;
        int at = 0;
        int goal = 0;
        int word = 0;
        int boundNumber = NONE;
        int boundMetric = BROKEN;

        void start(int newNumber, int from, int to, int newWord) {
            underWay = true;
            number = newNumber;
            at = from;
            goal = to;
            word = newWord;
            boundNumber = NONE;
        }

        // Every number is greater than NONE, so a packet without a bound is drawn by every whole entry.
        boolean isDrawnBy(Entry entry) {
            if (entry.metric == BROKEN) {
                return false;
            }
            return entry.number > boundNumber
                || entry.number == boundNumber && entry.metric < boundMetric;
        }

        void goTo(int boat, Entry entry) {
            at = boat;
            boundNumber = entry.number;
            boundMetric = entry.metric;
        }
    }
}
