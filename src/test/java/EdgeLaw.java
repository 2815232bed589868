import java.util.List;

/** By which bytes a beginning of a TEXT goes on: all 256 are tried, each on a new object. */
final class EdgeLaw {
    private EdgeLaw() {
    }

    /** The beginning _ is the empty one; 0-9 among the bytes stands for all digits. */
    static void goesOn(String told, String bytes, List<String> faults) {
        String beginning = told.equals("_") ? "" : told;
        String goOn = bytes.replace("0-9", "0123456789");
        int end = beginning.length();
        for (int b = 0; b < 256; b++) {
            int answer = lawOf(beginning, b);
            boolean goes = goOn.indexOf(b) >= 0;
            // a byte with which a TEXT goes on makes a TEXT, or one that ends too early: its length is the FAULT then
            boolean asDue = goes ? answer == 1 || answer == -100 - (end + 1) : answer == -100 - end;
            if (!asDue) {
                faults.add("'" + beginning + "' with byte " + b + ": law() answered " + answer + ", though a TEXT "
                    + (goes ? "goes on with it" : "does not go on with it"));
            }
        }
    }

    private static int lawOf(String beginning, int last) {
        ChainsHold x = new ChainsHold();
        for (int i = 0; i < beginning.length(); i++) {
            x.feed(beginning.charAt(i));
        }
        x.feed(last);
        return x.law();
    }
}
