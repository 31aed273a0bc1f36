/** Calls that several tests make, and what can be seen of an object without changing it. */
final class Calls {
    /** A call, or several, on an object; the answer of the last one. */
    interface Call {
        long on(LeaningRicks x);
    }

    private Calls() {
    }

    static LeaningRicks with(int rick, int... weights) {
        LeaningRicks x = new LeaningRicks();
        putAll(x, rick, weights);
        return x;
    }

    static void putAll(LeaningRicks x, int rick, int... weights) {
        for (int weight : weights) {
            x.put(rick, weight, 1);
        }
    }

    /** Puts as many sheaves with the weights first, first + 1, .. */
    static void putRow(LeaningRicks x, int rick, int first, int sheaves) {
        for (int i = 0; i < sheaves; i++) {
            x.put(rick, first + i, 1);
        }
    }

    static LeaningRicks after(Call steps) {
        LeaningRicks x = new LeaningRicks();
        steps.on(x);
        return x;
    }

    static int append(LeaningRicks x, String text) {
        int length = 0;
        for (int i = 0; i < text.length(); i++) {
            length = x.append(text.charAt(i));
        }
        return length;
    }

    static int runText(LeaningRicks x, String text) {
        append(x, text);
        return x.run();
    }

    static String told(LeaningRicks x, int rick) {
        StringBuilder told = new StringBuilder();
        int length = x.tell(rick);
        for (int i = 0; i < length; i++) {
            told.append((char) x.character(i));
        }
        return told.toString();
    }

    /** The sum of all depths, by the sheaves round which there are others in a line. */
    static int depths(String line) {
        int sum = 0;
        int open = 0;
        for (int i = 0; i < line.length(); i++) {
            open += line.charAt(i) == '(' ? 1 : line.charAt(i) == ')' ? -1 : 0;
            sum += line.charAt(i) == '(' ? open - 1 : 0;
        }
        return sum;
    }

    static String line(LeaningRicks x) {
        StringBuilder line = new StringBuilder();
        for (int i = 0; i < 60 && x.character(i) >= 0; i++) {
            line.append((char) x.character(i));
        }
        return line.toString();
    }

    /** The whole of what tell writes, also beyond 60 characters, by the numbers of the sheaves. */
    static String written(LeaningRicks x, int rick) {
        return written(x, rick, x.rickOf(rick, 2));
    }

    private static String written(LeaningRicks x, int rick, int top) {
        return top < 0 ? "" : "(" + written(x, rick, x.sheafOf(rick, top, 6)) + top
                + (x.sheafOf(rick, top, 4) == 1 ? "!" : "")
                + written(x, rick, x.sheafOf(rick, top, 7)) + ")";
    }

    /** All that changes can change. */
    static String state(LeaningRicks x) {
        StringBuilder state = new StringBuilder();
        for (int rick = 0; rick < 3; rick++) {
            state.append(x.shape(rick)).append(" most ").append(x.rickOf(rick, 5));
            for (int place = 0; place < x.rickOf(rick, 0); place++) {
                int weight = x.at(rick, place);
                state.append(' ').append(weight).append('*').append(x.sheafOf(rick, weight, 0))
                        .append('@').append(x.sheafOf(rick, weight, 1));
            }
            state.append("; ");
        }
        for (int what = 0; what <= 8; what++) {
            state.append(x.account(what)).append(' ');
        }
        return state.toString();
    }

    static String textAndLine(LeaningRicks x) {
        return "text " + x.account(9) + " line " + line(x);
    }

    /** What stays, whatever is undone or restored, but for the text's characters. */
    static String besides(LeaningRicks x) {
        return textAndLine(x) + " reason " + x.reason(false) + " " + x.reason(true);
    }
}
