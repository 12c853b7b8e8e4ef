/** Counts and prints the answers that are not the ones that are due. */
final class Due {
    private String sentence = "";
    private int sentences = 0;
    private int asked = 0;
    private int wrong = 0;

    /** What follows tests these words of the document. */
    void of(String words) {
        sentence = "\"" + words + "\": ";
        sentences++;
    }

    void is(String call, long got, long due) {
        asked++;
        if (got != due) {
            wrong++;
            if (wrong <= 50) {
                System.out.println(sentence + call + " answered " + got + ", due is " + due);
            }
        }
    }

    void holds(String what, boolean so) {
        is(what, so ? 1 : 0, 1);
    }

    /** Says the signs of a text, one by one; none of them is to be refused. */
    void says(HassockSee see, String text) {
        for (int i = 0; i < text.length(); i++) {
            holds("say('" + text.charAt(i) + "') of " + text, see.say(text.charAt(i)) > 0);
        }
    }

    void end(String test) {
        String of = sentences == 0 ? "" : " to " + sentences + " sentences";
        System.out.println(test + ": " + asked + " answers" + of + ", " + wrong + " wrong");
        if (wrong != 0 || asked == 0) {
            System.exit(1);
        }
    }
}
