/**
 * The document sentence by sentence: each is quoted beside rows whose answers
 * were worked out by hand, ordinary ones, its edges, and wrong calls.
 */
public final class PromisesTest {
    public static void main(String[] args) {
        TextRows.all();
        WeekRows.all();
        RestRows.all();
        OddsRows.all();
        AheadRows.all();
        PastRows.all();
        TrayRows.all();
        Rows.close();
        if (!Rows.allRight()) {
            System.exit(1);
        }
    }
}
