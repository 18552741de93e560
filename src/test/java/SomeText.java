/** A text for load(): mostly right, now and then with a fault put into it. */
final class SomeText {
    private static final String[] PIECES = {
        "", " ", ";", "7", "0", "100", "edge", "code", "x", "\t", "weight 1", " 1 ", ";;", "\u00e9", "vertices"
    };

    private final Luck luck;
    private final StringBuilder text = new StringBuilder();

    SomeText(Luck luck) {
        this.luck = luck;
    }

    String text() {
        int n = luck.once(20) ? luck.below(13) : 1 + luck.below(10);
        gap();
        text.append("vertices ").append(n).append(';');
        int statements = luck.below(8);
        for (int i = 0; i < statements; i++) {
            gap();
            statement(Math.max(n, 1), i == 0);
        }
        if (luck.once(3)) {
            spoil();
        }
        text.setLength(Math.min(text.length(), 400));
        return text.toString();
    }

    private void gap() {
        if (luck.once(6)) {
            text.append(luck.once(2) ? "\n" : "  ");
        }
    }

    private void statement(int n, boolean first) {
        if (first && luck.once(3) || luck.once(30)) {
            text.append("code");
            numbers(n, Math.max(0, n - 2 + (luck.once(8) ? luck.below(3) - 1 : 0)));
        } else if (luck.once(4)) {
            text.append("weight").append(' ').append(luck.below(n)).append(' ').append(luck.below(luck.once(9) ? 110 : 100));
        } else {
            text.append(luck.once(2) ? "edge" : luck.once(2) ? "path" : "star");
            numbers(n, text.charAt(text.length() - 1) == 'e' ? 2 : 2 + luck.below(3));
        }
        gap();
        text.append(';');
    }

    private void numbers(int n, int count) {
        for (int i = 0; i < count; i++) {
            text.append(luck.once(15) ? "\n" : " ");
            if (luck.once(15)) {
                text.append('0');
            }
            text.append(luck.once(60) ? n : luck.below(n));
        }
    }

    private void spoil() {
        int at = luck.below(text.length() + 1);
        if (luck.once(3)) {
            text.setLength(at);
        } else if (luck.once(2)) {
            text.insert(at, PIECES[luck.below(PIECES.length)]);
        } else {
            text.delete(at, Math.min(text.length(), at + 1 + luck.below(3)));
        }
    }
}
