/** The run of calls that README.md shows: what is told there must be so. */
public final class ReadmeTest {
    private static final Runs RUNS = new Runs();

    public static void main(String[] args) {
        RUNS.run("the README's run",
                "thing(0) = 0; thing(3) = 1; thing(1) = 2; thing(4) = 3",
                "put(1, 0) = NONE; put(2, 0) = NONE; put(3, 2) = NONE; set(3, 2, 5) = 0",
                "sees(1, 3) = 0; barrier(1, 3) = 2; take(1, 3) = BARRED; set(2, 0, 1) = 0",
                "take(1, 3) = 1; told(3, 1) = 1");
        RUNS.end();
    }
}
