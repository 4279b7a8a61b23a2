/** Nothing is promised of an object after its 512th call: here comes a new one in time. */
final class Fresh {
    private static final int MOST = 500;

    private OrderEcho x = new OrderEcho();
    private int calls;

    /** An object on which nothing was told, for one call that only asks. */
    OrderEcho next() {
        if (calls == MOST) {
            x = new OrderEcho();
            calls = 0;
        }
        calls++;
        return x;
    }
}
