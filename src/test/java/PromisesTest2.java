public final class PromisesTest2 {
    public static void main(String[] args) {
        TextRows.all();
        WeekRows.all();
        RestRows.all();
        OddsRows.all();
        AheadRows.all();
        Rows.close();
        if (!Rows.allRight()) {
            System.exit(1);
        }
    }
}
