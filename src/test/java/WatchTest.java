/** Promises 10 and 11: watch and watched. */
public final class WatchTest {
    public static void main(String[] args) {
        PlantKeeper x = new PlantKeeper();
        Bench.due("watched at first", x.watched(), 0);
        Bench.due("watch nothing", x.watch(), PlantKeeper.NONE);
        Bench.tape(x, "a");
        Bench.due("watch with nothing loaded", x.watch(), PlantKeeper.NONE);
        Bench.due("load", Bench.load(x, "FUNCTION f : INT VAR n : INT; END_VAR END_FUNCTION FUNCTION_BLOCK in1 VAR_INPUT i : INT := 11; END_VAR VAR t : CTD; "
            + "r : ARRAY [-2 .. 12] OF DINT := -70000; END_VAR VAR_OUTPUT o : BOOL := TRUE; END_VAR END_FUNCTION_BLOCK "
            + "FUNCTION_BLOCK out VAR k : in1; END_VAR END_FUNCTION_BLOCK PROGRAM main VAR a : INT := -5; b AT %QX0 : BOOL := TRUE; d : DINT := 2147483647; "
            + "r : ARRAY [1 .. 3] OF INT := 8; s : ARRAY [-3 .. -1] OF BOOL; k : out; t : TON; w : SR; m AT %MW5 : INT; END_VAR t(PT := 500, IN := TRUE); "
            + "s[-2] := TRUE; END_PROGRAM"), 0);
        Bench.watched(x, "a", 1, -5);
        Bench.watched(x, "A", 1, -5);
        Bench.watched(x, "b", 0, 1);
        Bench.due("not published", x.get(1, 0), 0);
        Bench.watched(x, "d", 2, 2147483647);
        Bench.watched(x, "r[1]", 1, 8);
        Bench.watched(x, "r[003]", 1, 8);
        Bench.watched(x, "s[-2]", 0, 0);
        Bench.watched(x, "k.k.i", 1, 11);
        Bench.watched(x, "K.K.O", 0, 1);
        Bench.watched(x, "k.k.r[-2]", 2, -70000);
        Bench.watched(x, "k.k.r[12]", 2, -70000);
        Bench.watched(x, "k.k.r[0]", 2, -70000);
        Bench.watched(x, "k.k.r[9]", 2, -70000);
        Bench.watched(x, "k.k.r[-0]", 2, -70000);
        Bench.watched(x, "k.k.t.pv", 1, 0);
        Bench.watched(x, "k.k.t.ld", 0, 0);
        Bench.watched(x, "t.pt", 2, 0);
        x.put(5, 5, 123);
        Bench.watched(x, "m", 1, 123);
        x.scan(9);
        Bench.watched(x, "T.PT", 2, 500);
        Bench.watched(x, "t.In", 0, 1);
        Bench.watched(x, "s[-2]", 0, 1);
        String[] wrong = {"", " ", "a ", " a", "b.", ".a", "a.a", "a[1]", "r", "r[]", "r[-]", "r[0]", "r[4]", "r[-1]", "r[1", "r1]", "r[1]]", "r[1].a", "r[ 1]",
            "r[+1]", "r[1]x", "k.k.r[:]", "k.k.r[]", "k.k.r[-]", "k.k.r[/1]", "k.k.r[1/]", "r[16#1]", "r[99999999999999999999]", "r[-99999999999999999999]", "s[0]", "s[-0]", "s[-4]", "k", "k.", "k.k", "k.k.", "k.k.r",
            "k.i", "k.k.k", "k.k.nothing", "k.k.r[13]", "t", "t.", "t.m", "t.cv", "t.q.q", "w.q", "main", "main.a", "f", "n", "f.n", "ton", "IF", "k..k", "%QX0", "a\0", "1",
            "aaaaaaaaaaaaaaaaaaaaaaaaaaaaaaaaaaaaaaaaaaaaaaaaaaaaaaaa", "\u00e4"};
        for (String path : wrong) {
            Bench.notWatched(x, path);
        }
        Bench.notWatched(x, "ab");
        Bench.watched(x, "a", 1, -5);
        Bench.notWatched(x, "k.k.i.");
        Bench.notWatched(x, "k");
        Bench.watched(x, "w.q1", 0, 0);
        Bench.load(x, "PROGRAM p VAR z : INT := 4; END_VAR END_PROGRAM");
        Bench.due("watched stays behind load", x.watched(), 0);
        Bench.notWatched(x, "a");
        Bench.watched(x, "z", 1, 4);
        Bench.load(x, "PROGRAM");
        Bench.due("watched stays behind a fault", x.watched(), 4);
        Bench.tape(x, "z");
        Bench.due("watch behind a fault", x.watch(), PlantKeeper.NONE);
        Bench.due("watched stays", x.watched(), 4);
        Bench.finish("WatchTest");
    }
}
