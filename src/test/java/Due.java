/** Counts the answers that are not the ones that are due, and prints each of them. */
final class Due {
    private final String about;
    private String part = "";
    private int asked;
    private int wrong;

    Due(String about) {
        this.about = about;
    }

    void part(String name) {
        part = name;
    }

    void is(String call, long answer, long due) {
        asked++;
        if (answer != due) {
            wrong++;
            System.out.println(about + ", " + part + ": " + call + " answered " + answer
                    + ", due is " + due);
        }
    }

    int wrong() {
        return wrong;
    }

    void end() {
        System.out.println(about + ": " + asked + " answers, " + wrong + " not as due");
        if (wrong != 0 || asked == 0) {
            System.exit(1);
        }
    }
}
