/** Objects for calls that only ask: each is used for at most 512 calls, as the document says. */
final class Fresh {
    static final int CALLS = 512;
    private SchubertDesk desk = new SchubertDesk();
    private int calls = 0;

    /** The object for the next call. */
    SchubertDesk desk() {
        if (calls == CALLS) {
            desk = new SchubertDesk();
            calls = 0;
        }
        calls++;
        return desk;
    }
}
