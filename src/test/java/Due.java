/** Counts the answers that are not the ones that are due, and prints each of them. */
final class Due {
    private final String about;
    private String part = "";
    private int asked;
    private int wrong;

    Due(String about) {
        this.about = about;
    }

    void part(String name) {
        part = name;
    }

    void is(String call, long answer, long due) {
        ask(call, answer == due, String.valueOf(answer), String.valueOf(due));
    }

    void isText(String call, String answer, String due) {
        ask(call, answer.equals(due), answer, due);
    }

    private void ask(String call, boolean isDue, String answer, String due) {
        asked++;
        if (!isDue) {
            wrong++;
            System.out.println(about + ", " + part + ": " + call + " answered " + answer
                    + ", due is " + due);
        }
    }

    /** The line, and that the depths of the sheaves are those that the line shows. */
    void tells(LeaningRicks x, int rick, String line) {
        isText("tell(" + rick + ")", Calls.told(x, rick), line);
        if (line.length() < 60) {
            is("rickOf(" + rick + ", 7) of " + line, x.rickOf(rick, 7), Calls.depths(line));
        }
    }

    void refused(LeaningRicks x, String call, long answer, int reason, int detail) {
        is(call, answer, LeaningRicks.REFUSED);
        is(call + ", reason(false)", x.reason(false), reason);
        is(call + ", reason(true)", x.reason(true), detail);
    }

    /** Two objects have the same state, now and after each undo, and the same snapshot. */
    void alike(String call, LeaningRicks x, LeaningRicks y) {
        isText(call + ", the state then", Calls.state(x), Calls.state(y));
        for (int i = 0; i <= 8; i++) {
            is(call + ", account(10)", x.account(10), y.account(10));
            is(call + ", undo()", x.undo(), y.undo());
            isText(call + ", undone", Calls.state(x), Calls.state(y));
        }
        is(call + ", restore()", x.restore(), y.restore());
        isText(call + ", restored", Calls.state(x), Calls.state(y));
    }

    int wrong() {
        return wrong;
    }

    void end() {
        System.out.println(about + ": " + asked + " answers, " + wrong + " not as due");
        if (wrong != 0 || asked == 0) {
            System.exit(1);
        }
    }
}
