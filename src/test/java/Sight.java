/** What can be seen of an object, as a text, so that two objects can be compared in every way. */
final class Sight {
    private Sight() {
    }

    /** Changes nothing, not even the output. */
    static String now(TreeCodes x) {
        StringBuilder text = new StringBuilder(vertices(x));
        text.append(" forest");
        for (int what = 0; what <= 8; what++) {
            text.append(' ').append(x.forest(what));
        }
        text.append(" accounts ").append(accounts(x));
        text.append(" buffer ").append(x.bufferLength());
        text.append(" output ").append(output(x));
        return text.toString();
    }

    /** What stands behind the present: undoes all, restores all, loads the buffer. Uses the object up. */
    static String past(TreeCodes x) {
        StringBuilder text = new StringBuilder();
        int left = x.undo();
        for (int i = 0; i < 9 && left >= 0; i++) {
            text.append(" undo ").append(left).append(' ').append(vertices(x));
            left = x.undo();
        }
        text.append(" accounts ").append(accounts(x));
        for (int snapshot = 0; snapshot < 3; snapshot++) {
            text.append(" restore ").append(x.restore(snapshot)).append(' ').append(vertices(x));
        }
        text.append(" load ").append(x.load()).append(' ').append(vertices(x));
        return text.toString();
    }

    static String vertices(TreeCodes x) {
        StringBuilder text = new StringBuilder();
        for (int v = 0; v < x.forest(0); v++) {
            text.append(x.vertex(v, 6)).append('*').append(x.vertex(v, 1)).append(' ');
        }
        return text.toString();
    }

    static String accounts(TreeCodes x) {
        StringBuilder text = new StringBuilder();
        for (int what = 0; what <= 9; what++) {
            text.append(what == 0 ? "" : " ").append(x.account(what));
        }
        return text.toString();
    }

    /** The output to its end, which only an exception tells. */
    static String output(TreeCodes x) {
        StringBuilder text = new StringBuilder();
        try {
            for (int i = 0; i <= 400; i++) {
                text.append((char) x.outputByte(i));
            }
        } catch (java.util.NoSuchElementException end) {
            return text.toString();
        }
        return "an output without end";
    }
}
