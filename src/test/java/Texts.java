import java.nio.charset.StandardCharsets;

/** Brings texts into the input buffer and out of the output. */
final class Texts {
    private Texts() {
    }

    static void feed(TreeCodes x, String text) {
        byte[] bytes = text.getBytes(StandardCharsets.ISO_8859_1);
        int length = x.bufferLength();
        for (int at = 0; at < bytes.length; at += 20) {
            x.append(four(bytes, at), four(bytes, at + 4), four(bytes, at + 8), four(bytes, at + 12), four(bytes, at + 16));
        }
        x.truncate(length + bytes.length);
    }

    private static int four(byte[] bytes, int at) {
        int four = 0;
        for (int i = at; i < at + 4; i++) {
            four = four << 8 | (i < bytes.length ? bytes[i] & 255 : 0);
        }
        return four;
    }

    static int load(TreeCodes x, String text) {
        feed(x, text);
        return x.load();
    }

    /** Loads the text alone, whatever the buffer holds. */
    static int replace(TreeCodes x, String text) {
        x.truncate(0);
        return load(x, text);
    }

    static TreeCodes of(String text) {
        TreeCodes x = new TreeCodes();
        int answer = load(x, text);
        if (answer < 0) {
            throw new IllegalStateException("a test's own text is wrong: " + text + " " + answer);
        }
        return x;
    }

    static String output(TreeCodes x, int length) {
        StringBuilder text = new StringBuilder();
        for (int i = 0; i < length; i++) {
            text.append((char) x.outputByte(i));
        }
        return text.toString();
    }

    static String text(TreeCodes x) {
        return output(x, x.writeText());
    }

    static String word(TreeCodes x, int component) {
        return output(x, x.writeWord(component));
    }
}
