/** The calls that README.md shows as an example, with the answers that it tells. */
final class ReadmeTest {
    private static final Due DUE = new Due();

    public static void main(String[] args) {
        SpillingColours x = new SpillingColours();
        x.put(0, 0, 5, 0);
        x.put(0, 1, 7, 0);
        x.put(2, 2, 0, 1);
        x.put(1, 3, 2, 0);
        x.put(7, 0, 3, 0);

        DUE.number("allocate(3)", x.allocate(3), 1);
        DUE.number("joined()", x.joined(), 1);
        DUE.number("line(2, 1)", x.line(2, 1), 0);
        DUE.number("run(1)", x.run(1), 1);
        DUE.number("shown(0)", x.shown(0), 12);
        DUE.truth("accepts()", x.accepts(), true);
        DUE.truth("spoil(4, 2, 2)", x.spoil(4, 2, 2), true);
        DUE.truth("accepts() behind spoil", x.accepts(), false);
        DUE.finish();
    }
}
