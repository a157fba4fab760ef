import java.util.Random;
import java.util.TreeMap;

/** Promises 3 to 5 over many drawn texts, each read by the class and by the model. */
public final class FaultsTest {
    private FaultsTest() {
    }

    public static void main(String[] args) {
        Check check = new Check("FaultsTest");
        TreeMap<Integer, Integer> met = new TreeMap<>();
        Random draw = new Random(20261118);
        OpenLines x = new OpenLines();
        for (int i = 0; i < 30000 && check.isClean(); i++) {
            if (i % 10 == 0) {
                x = new OpenLines();
            }
            Draft draft = new Draft(draw);
            String text = draw.nextInt(8) == 0 ? draft.whole() : draft.spoilt();
            if (draw.nextInt(6) == 0) {
                text = text.substring(0, draw.nextInt(text.length()));
            }
            int boards = 0;
            int fault = 0;
            int place = -1;
            try {
                boards = new ModelText(text).boards.size();
            } catch (ModelText.Fault e) {
                boards = -1;
                fault = e.number;
                place = e.place;
            }
            check.due("bus of " + text, Texts.bus(x, text), boards);
            check.due("fault of " + text, x.fault(), fault);
            check.due("place in " + text, x.where(), place);
            check.due("trouble of " + text, x.trouble(), fault == 0 ? 0 : 4);
            met.merge(fault, 1, Integer::sum);
        }
        check.due("all faults were met: " + met, met.size(), 7);
        System.out.println("faults met: " + met);
        check.end();
    }
}
