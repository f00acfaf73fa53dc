/** The calls that README.md shows, with the answers that it tells. */
public final class ReadmeTest {
    public static void main(String[] args) {
        Check check = new Check();
        check.program("the example", "10 FOR I=1 TO 3\n20 PRINT I*I\n30 NEXT I", "7", "printed 2 -> 9", "variable 8 -> 4",
                "at -> 30", "count 3 -> 3", "> 30 -> 2", "run -> 2", "wipe -> 2", "run -> 0");
        check.play("where a text was no line", "> 10 PRINT 2+) -> IllegalArgumentException", "errorAt -> 9",
                "> 10 PRINT 2+ -> IllegalArgumentException", "errorAt -> 9", "> 10 PRINT 2 -> 1", "errorAt -> -1");
        check.finish();
    }
}
