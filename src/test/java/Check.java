import java.nio.charset.StandardCharsets;

/** Compares answers with what is due, and tells at the end whether all were. */
final class Check {
    private final String name;
    private String sentence = "";
    private int sentences;
    private int wrong;
    private int asked;

    Check(String name) {
        this.name = name;
    }

    /** The document's words that the answers from here on are about. */
    void of(String words) {
        sentence = " (" + words + ")";
        sentences++;
    }

    void due(String call, long got, long want) {
        asked++;
        if (got != want) {
            wrong++;
            System.out.println(name + sentence + ": " + call + " answered " + got + ", due is " + want);
        }
    }

    void end() {
        String about = sentences == 0 ? "" : " about " + sentences + " sentences";
        System.out.println(name + ": " + asked + " answers" + about + ", " + wrong + " wrong");
        if (wrong != 0) {
            System.exit(1);
        }
    }

    /** Feeds a text; the last answer of feed. */
    static int feed(FrescoWall wall, String text) {
        byte[] bytes = text.getBytes(StandardCharsets.ISO_8859_1);
        int answer = 0;
        for (int at = 0; at < bytes.length; at += 8) {
            int n = Math.min(8, bytes.length - at);
            long w = 0;
            for (int k = 0; k < n; k++) {
                w = w << 8 | bytes[at + k] & 255;
            }
            answer = wall.feed(w, n);
        }
        return answer;
    }

    static int bit(FrescoWall wall, String text, int thick, int straw, int plaster) {
        feed(wall, text);
        return wall.bit(thick, straw, plaster);
    }

    /** A rectangle with its lower left corner at (0, 0); colours of its lower, right, upper and left edges. */
    static String box(int width, int height, String colours) {
        return "0,0:" + colours.charAt(0) + ";" + width + ",0:" + colours.charAt(1)
            + ";" + width + "," + height + ":" + colours.charAt(2) + ";0," + height + ":" + colours.charAt(3);
    }

    /** Unit squares that fit one another on all sides. */
    static FrescoWall squares(int n) {
        FrescoWall wall = new FrescoWall();
        for (int k = 0; k < n; k++) {
            bit(wall, box(1, 1, "0000"), 5, -1, 0);
        }
        return wall;
    }

    /** A bit on two squares that stand side by side, all three joined: the squares by 0, 2 with 0 by 1, 0 with 1 by 2. */
    static FrescoWall threeInARound() {
        FrescoWall wall = new FrescoWall();
        bit(wall, "0,0:1;1,0:2;2,0:4;2,1:5;0,1:6", 5, -1, 0);
        bit(wall, box(1, 1, "7318"), 5, -1, 0);
        bit(wall, box(1, 1, "9023"), 5, -1, 0);
        wall.join(1, 1, 2, 3);
        wall.join(2, 2, 0, 1);
        wall.join(0, 0, 1, 2);
        return wall;
    }

    static int ask(FrescoWall wall, String text) {
        feed(wall, text);
        return wall.ask();
    }

    static int photograph(FrescoWall wall, String text, int x, int y, int doubt) {
        feed(wall, text);
        return wall.photograph(x, y, doubt);
    }
}
