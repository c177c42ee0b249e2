import java.nio.charset.StandardCharsets;

/** The example of README.md: a text is laid on the tape, loaded and scanned. */
public final class Example {
    private static final String TEXT = """
        FUNCTION_BLOCK Pump
          VAR_INPUT want : BOOL; END_VAR
          VAR_OUTPUT on : BOOL; END_VAR
          VAR late : TON; END_VAR
          late(IN := want, PT := T#2S);
          on := late.Q;
        END_FUNCTION_BLOCK

        PROGRAM Tank
          VAR
            level AT %IW0 : INT;
            running AT %QX0 : BOOL;
            share AT %QW0 : INT;
            parts AT %MW0 : INT := 4;
            main : Pump;
          END_VAR
          main(want := level > 100);
          running := main.on;
          share := level / parts;
        END_PROGRAM
        """;

    /** Twenty bytes with each call; of the last twenty end() leaves those that are meant. */
    private static void lay(PlantKeeper keeper, byte[] bytes) {
        for (int i = 0; i < bytes.length; i += 20) {
            int[] w = new int[5];
            for (int k = 0; k < 20; k++) {
                w[k / 4] = w[k / 4] << 8 | (i + k < bytes.length ? bytes[i + k] & 255 : 0);
            }
            keeper.feed(w[0], w[1], w[2], w[3], w[4]);
        }
        if (bytes.length % 20 != 0) {
            keeper.end(bytes.length % 20);
        }
    }

    private static void lay(PlantKeeper keeper, String text) {
        lay(keeper, text.getBytes(StandardCharsets.ISO_8859_1));
    }

    public static void main(String[] args) {
        PlantKeeper keeper = new PlantKeeper();
        keeper.safe(4, 0, -1);
        lay(keeper, TEXT);
        System.out.println("load " + keeper.load(1000) + ", bound " + keeper.count(2));
        keeper.put(3, 0, 200);
        System.out.println("scan " + keeper.scan(1000) + ", running " + keeper.get(1, 0));
        System.out.println("scan " + keeper.scan(2000) + ", running " + keeper.get(1, 0));
        System.out.println("share " + keeper.get(4, 0));
        lay(keeper, "main.late.et");
        System.out.println("watch " + keeper.watch() + ", watched " + keeper.watched());
        lay(keeper, new byte[] {1, 6, 0, 0, 0, 0, (byte) 0x89, (byte) 0xCA});
        System.out.println("frame " + keeper.frame() + ", its function " + keeper.byteAt(1));
        System.out.println("scan " + keeper.scan(1000) + ", share " + keeper.get(4, 0));
        System.out.println("scan " + keeper.scan(1000) + ", stopped " + keeper.count(9));
        System.out.println("restart " + keeper.restart() + ", stopped " + keeper.count(9));
        lay(keeper, "PROGRAM Tank level := 1; END_PROGRAM");
        System.out.println("load " + keeper.load(1000) + ", place " + keeper.count(1));
    }
}
