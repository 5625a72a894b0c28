/** The document's face, so that one call can be made on the program and on the plain model. */
interface Face {
    int want(int client, int crane);

    boolean timeout(int client, int crane, int arbiter);

    boolean giveUp(int client, int crane);

    boolean release(int client, int crane);

    int breakPermit(int crane, int number);

    boolean order(int client, int crane, int code);

    boolean stop(int arbiter);

    boolean start(int arbiter);

    int letters();

    int letter(int i, int what);

    boolean deliver(int i);

    boolean drop(int i);

    boolean copy(int i);

    int state(int client, int crane);

    int permit(int client, int crane);

    int quorumOf(int client, int crane);

    int vote(int arbiter, int crane, int what);

    int orders(int crane);

    int done(int crane, int i, int what);

    int highest(int crane);
}
