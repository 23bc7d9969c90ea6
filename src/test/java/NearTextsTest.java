/**
 * Each text that is one byte away from some texts that are right (or wrong at the end), and each beginning of
 * these: the class and the Model answer alike.
 */
public final class NearTextsTest {
    private static final String[] PALACES = {
        "floor 2 2;room .d1w 0 1;key 1 0;person 0;fixed 0;ways 5",
        " floor4 3  ; room2.34 3  2 ;room dddd 0 0;person 1 ",
        "floor 1 1;room .... 0 0;room wwww 0 0",
        "floor 3 4;room .... 2 3;room .... 3 0",
        "floor 2 2;ways 7;ways 7",
    };
    private static final String[] RULES = {
        "bar kind=1 and not[x+1>=tox*2 or 12345<y]",
        " bar[ [night%3 = 0] ]or not not faults>after ;bar 7-x/2<=0",
        "bar [[[[[[[[[[x=1]]]]]]]]]]",
        "bar not not not not not not[[[[x=1]]]]",
        "bar 1" + "+1".repeat(57) + "=1",
        "bar x=1" + ";bar x=1".repeat(11),
    };
    private static final String BYTES = "\0\n !()*+,-./0123459:;<=>?@AZ[\\]^_`abdefiklmnoprstuwxyz{|}~\177\200\240\377";

    private static WalkingRooms real = new WalkingRooms();
    private static Model model = new Model();
    private static int wrong = 0;
    private static int asked = 0;

    private static void alike(String text, boolean rule) {
        if (text.length() > 400) {
            return;
        }
        // An object is used for some calls only.
        if (asked % 15 == 0 || model.rules.size() == 6) {
            real = new WalkingRooms();
            model = new Model();
        }
        asked++;
        int got = rule ? Texts.rule(real, text) : Texts.palace(real, text);
        model.tape = new StringBuilder(text);
        int want = rule ? model.rule() : model.palace();
        if (got != want || real.count(2) != model.count(2) || real.count(6) != model.count(6)) {
            wrong++;
            System.out.println(text + " answered " + got + ", the model says " + want);
        }
    }

    private static void neighbours(String text, boolean rule) {
        alike(text, rule);
        for (int place = 0; place <= text.length(); place++) {
            String head = text.substring(0, place);
            String tail = text.substring(place);
            alike(head, rule);
            for (int k = 0; k < BYTES.length(); k++) {
                alike(head + BYTES.charAt(k) + tail, rule);
                if (!tail.isEmpty()) {
                    alike(head + BYTES.charAt(k) + tail.substring(1), rule);
                }
            }
            if (!tail.isEmpty()) {
                alike(head + tail.substring(1), rule);
                alike(head + tail.charAt(0) + tail, rule);
            }
        }
    }

    public static void main(String[] args) {
        for (String text : PALACES) {
            neighbours(text, false);
        }
        for (String text : RULES) {
            neighbours(text, true);
        }
        System.out.println(asked + " texts, " + wrong + " not alike");
        if (wrong > 0) {
            System.exit(1);
        }
    }
}
