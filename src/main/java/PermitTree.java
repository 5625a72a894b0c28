/**
 * Permits for cranes, given by votes of arbiters that form a tree, over a post whose letters may be
 * lost, doubled or late: each permit has a higher number than those before, and a crane obeys no
 * lower one.
 */
public final class PermitTree {
    public static final int NONE = -1;

    private static final int CLIENTS = 8;
    private static final int CRANES = 4;
    private static final int ARBITERS = 15;
    private static final int ROOT = 0;
    private static final int FIRST_LEAF = 7;
    private static final int ALL_ARBITERS = (1 << ARBITERS) - 1;

    private static final int ASK = 1;
    private static final int VOTE = 2;
    private static final int NUMBER = 3;
    private static final int STORED = 4;
    private static final int BACK = 5;
    private static final int BROKEN_TO_ARBITER = 6;
    private static final int BROKEN_TO_CRANE = 7;
    private static final int ORDER = 8;

    private static final int AWAY = 0;
    private static final int ASKING = 1;
    private static final int WRITING = 2;
    private static final int HOLDING = 3;
    private static final int HOLDING_BROKEN = 4;

    private final Post post;
    private final Bid[] bids;
    private final Ballot[] ballots;
    private final Log[] logs;
    private final int[] lastRuns;
    private int down;

    public PermitTree() {
        post = new Post();
        bids = new Bid[CLIENTS * CRANES];
        for (int i = 0; i < bids.length; i++) {
            bids[i] = new Bid(i / CRANES, i % CRANES);
        }
        ballots = new Ballot[ARBITERS * CRANES];
        for (int i = 0; i < ballots.length; i++) {
            ballots[i] = new Ballot();
        }
        logs = new Log[CRANES];
        for (int i = 0; i < logs.length; i++) {
            logs[i] = new Log();
        }
        lastRuns = new int[CLIENTS];
        down = 0;
    }

    public int want(int client, int crane) {
        Bid bid = bidIfAny(client, crane);
        if (bid == null || bid.state != AWAY) {
            return NONE;
        }
        lastRuns[client]++;
        bid.begin(lastRuns[client]);
        askRoute(bid);
        return bid.run;
    }

    public boolean timeout(int client, int crane, int arbiter) {
        Bid bid = bidIfAny(client, crane);
        if (bid == null || !isArbiter(arbiter)) {
            return false;
        }
        if (bid.state != ASKING || hasBit(bid.silent, arbiter)) {
            return false;
        }
        bid.silent |= 1 << arbiter;
        askRoute(bid);
        writeIfVoted(bid);
        return true;
    }

    public boolean giveUp(int client, int crane) {
        Bid bid = bidIfAny(client, crane);
        if (bid == null || bid.state != ASKING && bid.state != WRITING) {
            return false;
        }
        endRun(bid);
        return true;
    }

    public boolean release(int client, int crane) {
        Bid bid = bidIfAny(client, crane);
        if (bid == null || !bid.isHolding()) {
            return false;
        }
        endRun(bid);
        return true;
    }

    public int breakPermit(int crane, int number) {
        if (!isCrane(crane)) {
            return NONE;
        }
        for (int client = 0; client < CLIENTS; client++) {
            Bid bid = bidOf(client, crane);
            if (bid.state == HOLDING && bid.number == number) {
                bid.state = HOLDING_BROKEN;
                sendToEach(ALL_ARBITERS, BROKEN_TO_ARBITER, bid, number);
                post.send(BROKEN_TO_CRANE, client, crane, bid.run, NONE, number);
                return client;
            }
        }
        return NONE;
    }

    public boolean order(int client, int crane, int code) {
        Bid bid = bidIfAny(client, crane);
        if (bid == null || !bid.isHolding()) {
            return false;
        }
        post.sendOrder(client, crane, bid.run, bid.number, code);
        return true;
    }

    public boolean stop(int arbiter) {
        if (!isArbiter(arbiter) || hasBit(down, arbiter)) {
            return false;
        }
        down |= 1 << arbiter;
        return true;
    }

    public boolean start(int arbiter) {
        if (!isArbiter(arbiter) || !hasBit(down, arbiter)) {
            return false;
        }
        down &= ~(1 << arbiter);
        return true;
    }

    public int letters() {
        return post.count;
    }

    public int letter(int i, int what) {
        if (!post.has(i) || what < Post.KIND || what > Post.CARRIED) {
            return NONE;
        }
        return post.read(i, what);
    }

    public boolean deliver(int i) {
        if (!post.has(i)) {
            return false;
        }
        int kind = post.read(i, Post.KIND);
        int client = post.read(i, Post.CLIENT);
        int crane = post.read(i, Post.CRANE);
        int run = post.read(i, Post.RUN);
        int arbiter = post.read(i, Post.ARBITER);
        int number = post.read(i, Post.CARRIED);
        int code = post.read(i, Post.CODE);
        // It leaves the post before anything comes of it, so that an answer may have its place.
        post.remove(i);
        if (kind == VOTE) {
            takeVote(bidOf(client, crane), run, arbiter, number);
        } else if (kind == STORED) {
            takeStored(bidOf(client, crane), run, arbiter);
        } else if (kind == ORDER) {
            logs[crane].obey(number, code);
        } else if (kind == BROKEN_TO_CRANE) {
            logs[crane].hearBroken(number);
        } else if (!hasBit(down, arbiter)) {
            reachArbiter(kind, arbiter, crane, Ballot.claimOf(client, run), number);
        }
        return true;
    }

    public boolean drop(int i) {
        if (!post.has(i)) {
            return false;
        }
        post.remove(i);
        return true;
    }

    public boolean copy(int i) {
        return post.has(i) && post.repeat(i);
    }

    public int state(int client, int crane) {
        Bid bid = bidIfAny(client, crane);
        return bid == null ? NONE : bid.state;
    }

    public int permit(int client, int crane) {
        Bid bid = bidIfAny(client, crane);
        return bid == null || !bid.isHolding() ? 0 : bid.number;
    }

    public int quorumOf(int client, int crane) {
        Bid bid = bidIfAny(client, crane);
        if (bid == null || bid.state == AWAY) {
            return 0;
        }
        return bid.state == ASKING ? bid.route & bid.votes : bid.route;
    }

    public int vote(int arbiter, int crane, int what) {
        if (!isArbiter(arbiter) || !isCrane(crane)) {
            return NONE;
        }
        Ballot ballot = ballotOf(arbiter, crane);
        switch (what) {
            case 0:
                return Ballot.clientOf(ballot.holder);
            case 1:
                return Ballot.runOf(ballot.holder);
            case 2:
                return ballot.stored;
            case 3:
                return ballot.waiting;
            case 4:
                return Ballot.clientOf(ballot.firstWaiting());
            default:
                return NONE;
        }
    }

    public int orders(int crane) {
        return isCrane(crane) ? logs[crane].count : NONE;
    }

    public int done(int crane, int i, int what) {
        if (!isCrane(crane) || !logs[crane].keeps(i)) {
            return NONE;
        }
        if (what == 0) {
            return logs[crane].numberAt(i);
        }
        return what == 1 ? logs[crane].codeAt(i) : NONE;
    }

    public int highest(int crane) {
        return isCrane(crane) ? logs[crane].highest : NONE;
    }

    private static boolean isCrane(int crane) {
        return crane >= 0 && crane < CRANES;
    }

    private static boolean isArbiter(int arbiter) {
        return arbiter >= 0 && arbiter < ARBITERS;
    }

    private static boolean isClient(int client) {
        return client >= 0 && client < CLIENTS;
    }

    private static boolean hasBit(int bits, int k) {
        return (bits >> k & 1) != 0;
    }

    private Bid bidOf(int client, int crane) {
        return bids[client * CRANES + crane];
    }

    private Bid bidIfAny(int client, int crane) {
        return isClient(client) && isCrane(crane) ? bidOf(client, crane) : null;
    }

    private Ballot ballotOf(int arbiter, int crane) {
        return ballots[arbiter * CRANES + crane];
    }

    /** The route from an arbiter, bit k for arbiter k; 0 if there is none. */
    private static int routeFrom(int arbiter, int silent) {
        if (!isArbiter(arbiter)) {
            return 0;
        }
        boolean isSilent = hasBit(silent, arbiter);
        if (arbiter >= FIRST_LEAF) {
            return isSilent ? 0 : 1 << arbiter;
        }
        int left = routeFrom(2 * arbiter + 1, silent);
        int right = routeFrom(2 * arbiter + 2, silent);
        if (isSilent) {
            return left == 0 || right == 0 ? 0 : left | right;
        }
        int below = left != 0 ? left : right;
        return below == 0 ? 0 : 1 << arbiter | below;
    }

    private void sendToEach(int arbiters, int kind, Bid bid, int number) {
        for (int k = 0; k < ARBITERS; k++) {
            if (hasBit(arbiters, k)) {
                post.send(kind, bid.client, bid.crane, bid.run, k, number);
            }
        }
    }

    private void askRoute(Bid bid) {
        bid.route = routeFrom(ROOT, bid.silent);
        int unasked = bid.route & ~bid.asked;
        // One whose ASK the full post loses counts as asked too: it was sent.
        bid.asked |= unasked;
        sendToEach(unasked, ASK, bid, 0);
    }

    private void writeIfVoted(Bid bid) {
        if (bid.route == 0 || (bid.route & ~bid.votes) != 0) {
            return;
        }
        bid.state = WRITING;
        bid.number = bid.greatest + 1;
        sendToEach(bid.route, NUMBER, bid, bid.number);
    }

    private void endRun(Bid bid) {
        sendToEach(bid.asked, BACK, bid, 0);
        bid.state = AWAY;
    }

    private void takeVote(Bid bid, int run, int arbiter, int number) {
        if (!bid.isIn(run)) {
            post.send(BACK, bid.client, bid.crane, run, arbiter, 0);
        } else if (bid.state == ASKING) {
            bid.votes |= 1 << arbiter;
            bid.greatest = Math.max(bid.greatest, number);
            writeIfVoted(bid);
        }
    }

    private void takeStored(Bid bid, int run, int arbiter) {
        if (!bid.isIn(run) || bid.state != WRITING || !hasBit(bid.route, arbiter)) {
            return;
        }
        bid.stored |= 1 << arbiter;
        if (bid.stored == bid.route) {
            bid.state = HOLDING;
        }
    }

    private void reachArbiter(int kind, int arbiter, int crane, int claim, int number) {
        Ballot ballot = ballotOf(arbiter, crane);
        if (kind == ASK) {
            if (ballot.admit(claim)) {
                sendVote(arbiter, crane);
            }
        } else if (kind == NUMBER) {
            if (ballot.holder == claim) {
                ballot.stored = Math.max(ballot.stored, number);
                post.send(STORED, Ballot.clientOf(claim), crane, Ballot.runOf(claim), arbiter, 0);
            }
        } else if (ballot.withdraw(claim)) {
            sendVote(arbiter, crane);
        }
    }

    private void sendVote(int arbiter, int crane) {
        Ballot ballot = ballotOf(arbiter, crane);
        int client = Ballot.clientOf(ballot.holder);
        post.send(VOTE, client, crane, Ballot.runOf(ballot.holder), arbiter, ballot.stored);
    }

    /** The letters on their way, in one row of numbers, so that no letter makes an object. */
    private static final class Post {
        static final int KIND = 0;
        static final int CLIENT = 1;
        static final int CRANE = 2;
        static final int RUN = 3;
        static final int ARBITER = 4;
        static final int CARRIED = 5;
        static final int CODE = 6;

        private static final int WIDTH = 7;
        private static final int MOST = 240;

        private final int[] cells = new int[MOST * WIDTH];
        private int count = 0;

        boolean has(int i) {
            return i >= 0 && i < count;
        }

        int read(int i, int field) {
            return cells[i * WIDTH + field];
        }

        void send(int kind, int client, int crane, int run, int arbiter, int number) {
            if (count == MOST) {
                return;
            }
            int at = count * WIDTH;
            cells[at + KIND] = kind;
            cells[at + CLIENT] = client;
            cells[at + CRANE] = crane;
            cells[at + RUN] = run;
            cells[at + ARBITER] = arbiter;
            cells[at + CARRIED] = number;
            cells[at + CODE] = 0;
            count++;
        }

        void sendOrder(int client, int crane, int run, int number, int code) {
            if (count == MOST) {
                return;
            }
            send(ORDER, client, crane, run, NONE, number);
            cells[(count - 1) * WIDTH + CODE] = code;
        }

        void remove(int i) {
            count--;
            System.arraycopy(cells, (i + 1) * WIDTH, cells, i * WIDTH, (count - i) * WIDTH);
        }

        boolean repeat(int i) {
            if (count == MOST) {
                return false;
            }
            System.arraycopy(cells, i * WIDTH, cells, count * WIDTH, WIDTH);
            count++;
            return true;
        }
    }

    /** What a client is at a crane, and what it has gathered in its run there. */
    private static final class Bid {
        private final int client;
        private final int crane;
        private int state = AWAY;
        private int run = 0;
        private int number = 0;
        private int greatest = 0;
        // Sets of arbiters, bit k for arbiter k; the route stays as the quorum once it is writing.
        private int silent = 0;
        private int route = 0;
        private int asked = 0;
        private int votes = 0;
        private int stored = 0;

        Bid(int client, int crane) {
            this.client = client;
            this.crane = crane;
        }

        void begin(int newRun) {
            state = ASKING;
            run = newRun;
            number = 0;
            greatest = 0;
            silent = 0;
            route = 0;
            asked = 0;
            votes = 0;
            stored = 0;
        }

        boolean isIn(int someRun) {
            return state != AWAY && run == someRun;
        }

        boolean isHolding() {
            return state == HOLDING || state == HOLDING_BROKEN;
        }
    }

    /** An arbiter's vote on a crane. A claim is a client and its run in one number, 0: nobody. */
    private static final class Ballot {
        private static final int NOBODY = 0;
        private static final int MOST = 16;

        private int holder = NOBODY;
        private int stored = 0;
        private int waiting = 0;
        private final int[] row = new int[MOST];

        static int claimOf(int client, int run) {
            return run * CLIENTS + client;
        }

        static int clientOf(int claim) {
            return claim == NOBODY ? NONE : Math.floorMod(claim, CLIENTS);
        }

        static int runOf(int claim) {
            return claim == NOBODY ? NONE : Math.floorDiv(claim, CLIENTS);
        }

        int firstWaiting() {
            return waiting == 0 ? NOBODY : row[0];
        }

        /** Whether the vote goes to the claim now. */
        boolean admit(int claim) {
            if (holder == NOBODY) {
                holder = claim;
                return true;
            }
            if (holder != claim && placeOf(claim) == NONE && waiting < MOST) {
                row[waiting] = claim;
                waiting++;
            }
            return false;
        }

        /** Whether the vote goes to the next claim now. */
        boolean withdraw(int claim) {
            if (holder != claim) {
                leaveRow(placeOf(claim));
                return false;
            }
            holder = firstWaiting();
            leaveRow(0);
            return holder != NOBODY;
        }

        private int placeOf(int claim) {
            for (int i = 0; i < waiting; i++) {
                if (row[i] == claim) {
                    return i;
                }
            }
            return NONE;
        }

        private void leaveRow(int i) {
            if (i < 0 || i >= waiting) {
                return;
            }
            waiting--;
            System.arraycopy(row, i + 1, row, i, waiting - i);
        }
    }

    /** What a crane has done and was told; of its orders the latest alone are kept. */
    private static final class Log {
        private static final int KEPT = 64;

        private int highest = 0;
        private int highestBroken = 0;
        private int count = 0;
        private final int[] numbers = new int[KEPT];
        private final int[] codes = new int[KEPT];

        void obey(int number, int code) {
            if (number < highest || number <= highestBroken) {
                return;
            }
            int at = Math.floorMod(count, KEPT);
            numbers[at] = number;
            codes[at] = code;
            count++;
            highest = number;
        }

        void hearBroken(int number) {
            highestBroken = Math.max(highestBroken, number);
            highest = Math.max(highest, number);
        }

        boolean keeps(int i) {
            return i >= 0 && i < count && i >= count - KEPT;
        }

        int numberAt(int i) {
            return numbers[i % KEPT];
        }

        int codeAt(int i) {
            return codes[i % KEPT];
        }
    }
}
