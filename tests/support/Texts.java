/** Writes texts into an object by its calls. */
public final class Texts {
    private Texts() {
    }

    /** Writes a whole text in rows of eight bytes: the last answer. */
    public static int write(OneMark x, String text) {
        int answer = 0;
        for (int at = 0; at < text.length(); at += 8) {
            int n = Math.min(8, text.length() - at);
            long bytes = 0;
            for (int i = 0; i < n; i++) {
                bytes |= (text.charAt(at + i) & 255L) << 8 * i;
            }
            answer = x.write(bytes, n);
        }
        return answer;
    }

    /** Where the fault of a text is; the text is empty afterwards. */
    public static int faultOf(OneMark x, String text) {
        x.erase();
        write(x, text);
        int fault = x.fault();
        x.erase();
        return fault;
    }

    /** What asking a text answers; the text is empty afterwards. */
    public static int ask(OneMark x, String text) {
        x.erase();
        write(x, text);
        int answer = x.ask();
        x.erase();
        return answer;
    }
}
