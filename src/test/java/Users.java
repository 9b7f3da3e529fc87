/** Hands out an object that has not yet had its 512 calls. */
final class Users {
    private GoesInto current = new GoesInto();
    private int calls = 0;

    GoesInto next() {
        if (calls == 512) {
            current = new GoesInto();
            calls = 0;
        }
        calls++;
        return current;
    }
}
