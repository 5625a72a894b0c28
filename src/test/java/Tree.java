/** A PermitTree that a test may not use for more calls than the document promises answers to. */
final class Tree implements Face {
    static final int MOST_CALLS = 512;

    private final PermitTree tree = new PermitTree();
    private int callsLeft;

    Tree() {
        this(MOST_CALLS);
    }

    private Tree(int calls) {
        callsLeft = calls;
    }

    /** One for a test that does not look at what it answers after its 512th call. */
    static Tree usedLong() {
        return new Tree(Integer.MAX_VALUE);
    }

    private PermitTree use() {
        if (callsLeft == 0) {
            throw new IllegalStateException("the test uses an object for over 512 calls");
        }
        callsLeft--;
        return tree;
    }

    int callsLeft() {
        return callsLeft;
    }

    @Override
    public int want(int client, int crane) {
        return use().want(client, crane);
    }

    @Override
    public boolean timeout(int client, int crane, int arbiter) {
        return use().timeout(client, crane, arbiter);
    }

    @Override
    public boolean giveUp(int client, int crane) {
        return use().giveUp(client, crane);
    }

    @Override
    public boolean release(int client, int crane) {
        return use().release(client, crane);
    }

    @Override
    public int breakPermit(int crane, int number) {
        return use().breakPermit(crane, number);
    }

    @Override
    public boolean order(int client, int crane, int code) {
        return use().order(client, crane, code);
    }

    @Override
    public boolean stop(int arbiter) {
        return use().stop(arbiter);
    }

    @Override
    public boolean start(int arbiter) {
        return use().start(arbiter);
    }

    @Override
    public int letters() {
        return use().letters();
    }

    @Override
    public int letter(int i, int what) {
        return use().letter(i, what);
    }

    @Override
    public boolean deliver(int i) {
        return use().deliver(i);
    }

    @Override
    public boolean drop(int i) {
        return use().drop(i);
    }

    @Override
    public boolean copy(int i) {
        return use().copy(i);
    }

    @Override
    public int state(int client, int crane) {
        return use().state(client, crane);
    }

    @Override
    public int permit(int client, int crane) {
        return use().permit(client, crane);
    }

    @Override
    public int quorumOf(int client, int crane) {
        return use().quorumOf(client, crane);
    }

    @Override
    public int vote(int arbiter, int crane, int what) {
        return use().vote(arbiter, crane, what);
    }

    @Override
    public int orders(int crane) {
        return use().orders(crane);
    }

    @Override
    public int done(int crane, int i, int what) {
        return use().done(crane, i, what);
    }

    @Override
    public int highest(int crane) {
        return use().highest(crane);
    }
}
