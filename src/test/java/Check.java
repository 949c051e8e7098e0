/** Counts and prints answers that are not as due; the tests share it. */
final class Check {
    private static int asked = 0;
    private static int wrong = 0;
    private static String sentence = "";

    private Check() {
    }

    /** The promise, and the sentence of it, that the next answers are due by. */
    static void of(int promise, String says) {
        sentence = "promise " + promise + ", " + says + ": ";
    }

    static void due(String call, long got, long want) {
        asked++;
        if (got != want) {
            wrong++;
            System.out.println(sentence + call + " answered " + got + ", due is " + want);
        }
    }

    static void that(String what, boolean holds) {
        due(what, holds ? 1 : 0, 1);
    }

    /** Says the text, sign by sign, on a pad that is wiped first. */
    static void write(StencilWall wall, String text) {
        wall.wipe();
        for (int i = 0; i < text.length(); i++) {
            due("say " + text.charAt(i) + " of " + text, wall.say(text.charAt(i)), i + 1);
        }
    }

    /** All that can be told of the state: two walls of one fingerprint are alike but for the pad's signs and the sights' cells. */
    static String fingerprint(StencilWall wall) {
        StringBuilder text = new StringBuilder();
        for (int what = 0; what <= 45; what++) {
            text.append(wall.told(what)).append(' ');
        }
        text.append(wall.fault()).append(' ').append(wall.judge(0)).append(' ').append(wall.judge(1)).append(' ');
        for (int what = 0; what <= 6; what++) {
            text.append(wall.then(what)).append(' ');
        }
        for (int i = -1; i < 32; i++) {
            text.append(wall.prints(i)).append(' ');
        }
        return text.toString();
    }

    static void unchanged(String call, StencilWall wall, String before) {
        that(call + " changes nothing", fingerprint(wall).equals(before));
    }

    static void end() {
        System.out.println(asked + " answers, " + wrong + " not as due");
        if (wrong != 0) {
            System.exit(1);
        }
    }
}
