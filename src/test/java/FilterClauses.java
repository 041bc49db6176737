/** The boundary cases of promises 24 to 41, clause by clause. */
final class FilterClauses {
    private static final String NONE_SELECTED = "Throws `IllegalStateException` if no row is selected";

    private FilterClauses() {
    }

    static void test() {
        promise24();
        promises25To27();
        promises28And29();
        promises30And31();
        promises32And33();
        promises34And35();
        promise36();
        promises37And38();
        promises39And40();
        promise41();
    }

    /** Rows 0, 3 and 5 are selected. */
    private static PackedTable filtered() {
        PackedTable table = new PackedTable();
        table.addGreater(0, 1);
        table.addEqual(2, 7);
        return table;
    }

    private static PackedTable noneSelected() {
        PackedTable table = new PackedTable();
        table.addLess(0, 1);
        return table;
    }

    private static void promise24() {
        Clauses.promise(24, "Returns 0 to 8", () -> {
            PackedTable table = new PackedTable();
            for (int count = 0; count < 8; count++) {
                Check.same("count", table.conditionCount(), count);
                table.addEqual(0, 5);
            }
            Check.same("eight", table.conditionCount(), 8);
            Check.notNow("no ninth", () -> table.addEqual(0, 5));
            Check.same("still eight", table.conditionCount(), 8);
            for (int count = 7; count >= 0; count--) {
                table.removeCondition(0);
                Check.same("count", table.conditionCount(), count);
            }
        });
    }

    private static void promises25To27() {
        Refusals.noSuchCondition(25, (table, condition) -> table.conditionColumn(condition));
        Refusals.noSuchCondition(26, (table, condition) -> table.conditionValue(condition));
        Clauses.promise(27, "Returns -1 if it demands smaller values, 0 if it demands an equal value, 1 if it demands greater", () -> {
            PackedTable table = new PackedTable();
            table.addGreater(0, -9999);
            table.addEqual(1, 0);
            table.addLess(2, 9999);
            Check.same("greater", table.conditionDirection(0), 1);
            Check.same("equal", table.conditionDirection(1), 0);
            Check.same("smaller", table.conditionDirection(2), -1);
            Check.same("columns", table.conditionColumn(0) * 100 + table.conditionColumn(1) * 10 + table.conditionColumn(2), 12);
            Check.same("least value", table.conditionValue(0), -9999);
            Check.same("greatest value", table.conditionValue(2), 9999);
        });
        Refusals.noSuchCondition(27, (table, condition) -> table.conditionDirection(condition));
    }

    private static void promises28And29() {
        Clauses.promise(28, "Returns the lower end of the code range of a condition", () -> {
            PackedTable table = Check.loaded("table 1;-9999;0;9999;");
            lower(table, table.addLess(0, -9999), 0);
            lower(table, table.addLess(0, 9999), 0);
            lower(table, table.addEqual(0, -9999), 0);
            lower(table, table.addEqual(0, 9999), 2);
            lower(table, table.addEqual(0, 1), 2);
            lower(table, table.addGreater(0, -9999), 1);
            lower(table, table.addGreater(0, 9998), 2);
            lower(table, table.addGreater(0, 9999), 3);
        });
        Refusals.noSuchCondition(28, (table, condition) -> table.lowerCode(condition));
        Clauses.promise(29, "Returns the upper end of the code range of a condition", () -> {
            PackedTable table = Check.loaded("table 1;-9999;0;9999;");
            upper(table, table.addLess(0, -9999), 0);
            upper(table, table.addLess(0, 9999), 2);
            upper(table, table.addEqual(0, -9999), 1);
            upper(table, table.addEqual(0, 9999), 3);
            upper(table, table.addEqual(0, 1), 2);
            upper(table, table.addGreater(0, -9999), 3);
            upper(table, table.addGreater(0, 9998), 3);
            upper(table, table.addGreater(0, 9999), 3);
        });
        Refusals.noSuchCondition(29, (table, condition) -> table.upperCode(condition));
    }

    /** The lower end of the condition that was added last, whatever it selects. */
    private static void lower(PackedTable table, int selected, int due) {
        int condition = table.conditionCount() - 1;
        Check.same("condition " + condition + " after " + selected, table.lowerCode(condition), due);
    }

    private static void upper(PackedTable table, int selected, int due) {
        int condition = table.conditionCount() - 1;
        Check.same("condition " + condition + " after " + selected, table.upperCode(condition), due);
    }

    private static void promises30And31() {
        Clauses.promise(30, "Returns the number of rows, whatever the other conditions are", () -> {
            PackedTable table = noneSelected();
            table.addEqual(0, 5);
            table.addGreater(0, -9999);
            Check.same("none", table.matches(0), 0);
            Check.same("some", table.matches(1), 3);
            Check.same("all", table.matches(2), 6);
            table.removeCondition(0);
            Check.same("the same without it", table.matches(0), 3);
            PackedTable bare = Prepared.bare();
            bare.addLess(0, 9999);
            Check.same("no rows", bare.matches(0), 0);
            Check.same("sixty rows", Prepared.full().matches(7), 60);
        });
        Refusals.noSuchCondition(30, (table, condition) -> table.matches(condition));
        Clauses.promise(31, "Finds the condition that rejects the most rows", () -> {
            PackedTable table = noneSelected();
            table.addEqual(0, 5);
            Check.same("all rejected", table.strictestCondition(), 0);
            table.removeCondition(0);
            table.addLess(0, 1);
            Check.same("behind", table.strictestCondition(), 1);
        });
        Clauses.promise(31, "Returns the index of the condition with the smallest matches", () -> {
            PackedTable table = Prepared.sixtyRows();
            table.addEqual(0, 1);
            Check.same("sixty matches", table.strictestCondition(), 0);
            for (int value = 2; value < 8; value++) {
                table.addLess(0, value);
            }
            table.addLess(0, 1);
            Check.same("the last of eight", table.strictestCondition(), 7);
        });
        Clauses.promise(31, "the smallest index if several are equal", () -> {
            Check.same("eight equal ones", Prepared.eightConditions().strictestCondition(), 0);
            PackedTable table = new PackedTable();
            table.addLess(0, 10);
            table.addEqual(2, 3);
            table.addEqual(1, 0);
            table.addEqual(0, 1);
            Check.same("three equal ones", table.strictestCondition(), 1);
            table.deleteSelected();
            Check.same("still", table.strictestCondition(), 1);
            PackedTable bare = Prepared.bare();
            bare.addLess(0, 0);
            bare.addEqual(0, 0);
            Check.same("no rows", bare.strictestCondition(), 0);
        });
        Clauses.promise(31, "-1 without conditions", () -> {
            Check.same("with rows", new PackedTable().strictestCondition(), -1);
            Check.same("without rows", Prepared.bare().strictestCondition(), -1);
            PackedTable table = noneSelected();
            table.removeCondition(0);
            Check.same("removed", table.strictestCondition(), -1);
        });
    }

    private static void promises32And33() {
        Clauses.promise(32, "Returns whether it fulfills all conditions", () -> {
            PackedTable table = Prepared.eightConditions();
            Check.same("all eight", table.isSelected(5), true);
            table.removeCondition(7);
            table.addLess(1, 0);
            Check.same("all but the last", table.isSelected(5), false);
            table.removeCondition(7);
            table.addLess(0, 5);
            table.removeCondition(0);
            Check.same("all but one", table.isSelected(5), false);
            Check.same("no conditions", new PackedTable().isSelected(5), true);
        });
        Refusals.noSuchRow(32, (table, row) -> table.isSelected(row));
        Clauses.promise(33, "Returns the number of rows that fulfill all conditions", () -> {
            Check.same("no conditions", new PackedTable().selectedCount(), 6);
            Check.same("some", filtered().selectedCount(), 3);
            Check.same("none", noneSelected().selectedCount(), 0);
            Check.same("no rows", Prepared.bare().selectedCount(), 0);
            Check.same("sixty", Prepared.sixtyRows().selectedCount(), 60);
        });
    }

    private static void promises34And35() {
        Clauses.promise(34, "-1 if there is none", () -> {
            PackedTable table = filtered();
            Check.same("first", table.selectedRow(0), 0);
            Check.same("last", table.selectedRow(2), 5);
            for (int place : new int[] {3, 5, 6, 60, -1, -2, Integer.MIN_VALUE, Integer.MAX_VALUE}) {
                Check.same("place " + place, table.selectedRow(place), -1);
            }
            Check.same("none selected", noneSelected().selectedRow(0), -1);
            Check.same("no rows", Prepared.bare().selectedRow(0), -1);
            Check.same("last of sixty", Prepared.sixtyRows().selectedRow(59), 59);
            Check.same("behind sixty", Prepared.sixtyRows().selectedRow(60), -1);
        });
        Clauses.promise(35, "Finds the first condition that a row does not fulfill", () -> {
            PackedTable table = filtered();
            Check.same("both", table.rejectedBy(4), 0);
            Check.same("the second", table.rejectedBy(2), 1);
            table.addLess(0, 0);
            Check.same("the third", table.rejectedBy(0), 2);
            PackedTable eight = Prepared.eightConditions();
            eight.removeCondition(0);
            eight.addLess(0, 9);
            Check.same("the last of eight", eight.rejectedBy(3), 7);
        });
        Clauses.promise(35, "-1 if the row is selected", () -> {
            Check.same("by two conditions", filtered().rejectedBy(0), -1);
            Check.same("by eight conditions", Prepared.eightConditions().rejectedBy(5), -1);
            Check.same("without conditions", new PackedTable().rejectedBy(0), -1);
        });
        Refusals.noSuchRow(35, (table, row) -> table.rejectedBy(row));
    }

    private static void promise36() {
        Clauses.promise(36, "Returns the sum of a column over all selected rows", () -> {
            Check.same("some", filtered().sumSelected(0), 19);
            Check.same("none", noneSelected().sumSelected(0), 0);
            Check.same("no rows", Prepared.bare().sumSelected(0), 0);
            Check.same("greatest", Check.loaded("table 1;" + Check.repeat("9999;", 60)).sumSelected(0), 599940);
            Check.same("least", Check.loaded("table 1;" + Check.repeat("-9999;", 60)).sumSelected(0), -599940);
        });
        Refusals.noSuchColumn(36, (table, column) -> table.sumSelected(column));
    }

    private static void promises37And38() {
        Clauses.promise(37, "Returns the smallest value of a column in all selected rows", () -> {
            Check.same("not the smallest of all", filtered().smallestSelected(0), 5);
            PackedTable table = Check.loaded("table 1;3;2;1;");
            table.setValue(0, 2, 4);
            Check.same("not a stale one", table.smallestSelected(0), 2);
        });
        Clauses.promise(37, "Returns the smallest value.", () -> {
            PackedTable table = Check.loaded("table 1;9999;-9999;0;");
            Check.same("least", table.smallestSelected(0), -9999);
            table.addGreater(0, -9999);
            Check.same("no longer selected", table.smallestSelected(0), 0);
            Check.same("greatest", Check.loaded("table 1;9999;").smallestSelected(0), 9999);
        });
        Refusals.noSuchColumn(37, (table, column) -> table.smallestSelected(column));
        Clauses.promise(37, NONE_SELECTED, () -> {
            Refusals.notNow("none", FilterClauses::noneSelected, table -> table.smallestSelected(0));
            Refusals.notNow("no rows", Prepared::bare, table -> table.smallestSelected(0));
        });
        Clauses.promise(38, "Returns the greatest value of a column in all selected rows", () -> {
            PackedTable filtered = filtered();
            filtered.addLess(0, 9);
            Check.same("not the greatest of all", filtered.greatestSelected(0), 5);
            PackedTable table = Check.loaded("table 1;1;2;3;");
            table.setValue(0, 2, 0);
            Check.same("not a stale one", table.greatestSelected(0), 2);
        });
        Clauses.promise(38, "Returns the greatest value.", () -> {
            PackedTable table = Check.loaded("table 1;-9999;9999;0;");
            Check.same("greatest", table.greatestSelected(0), 9999);
            table.addLess(0, 9999);
            Check.same("no longer selected", table.greatestSelected(0), 0);
            Check.same("least", Check.loaded("table 1;-9999;").greatestSelected(0), -9999);
        });
        Refusals.noSuchColumn(38, (table, column) -> table.greatestSelected(column));
        Clauses.promise(38, NONE_SELECTED, () -> {
            Refusals.notNow("none", FilterClauses::noneSelected, table -> table.greatestSelected(0));
            Refusals.notNow("no rows", Prepared::bare, table -> table.greatestSelected(0));
        });
    }

    private static void promises39And40() {
        Clauses.promise(39, "Counts the different values of a column in all selected rows", () -> {
            Check.same("some", filtered().distinctSelected(0), 2);
            Check.same("all", new PackedTable().distinctSelected(0), 3);
            Check.same("none", noneSelected().distinctSelected(0), 0);
        });
        Clauses.promise(39, "Returns the number of different values", () -> {
            Check.same("no rows", Prepared.bare().distinctSelected(0), 0);
            Check.same("one of sixty rows", Prepared.sixtyRows().distinctSelected(0), 1);
            Check.same("sixty", Prepared.counting(60).distinctSelected(0), 60);
            PackedTable table = Prepared.counting(60);
            table.setValue(0, 59, 0);
            Check.same("no stale ones", table.distinctSelected(0), 59);
            table.addLess(0, 2);
            Check.same("fewer than before", table.distinctSelected(0), 2);
            table.addLess(0, 0);
            Check.same("none at last", table.distinctSelected(0), 0);
        });
        Refusals.noSuchColumn(39, (table, column) -> table.distinctSelected(column));
        Clauses.promise(40, "0.0 if no row is selected", () -> {
            Check.same("none", noneSelected().meanSelected(0), 0.0);
            Check.same("no rows", Prepared.bare().meanSelected(0), 0.0);
        });
        Clauses.promise(40, "Returns sumSelected(column) divided by selectedCount(), both converted to double", () -> {
            Check.same("below 0", filtered().meanSelected(1), -4.0 / 3.0);
            Check.same("three rows", filtered().meanSelected(0), 19.0 / 3.0);
        });
        Clauses.promise(40, "Returns the mean of a column over all selected rows", () -> {
            Check.same("one row", Check.loaded("table 1;-9999;").meanSelected(0), -9999.0);
            Check.same("a sum of 0", Check.loaded("table 1;-9999;9999;").meanSelected(0), 0.0);
            Check.same("sixty rows", Prepared.counting(60).meanSelected(0), 29.5);
        });
        Refusals.noSuchColumn(40, (table, column) -> table.meanSelected(column));
    }

    private static void promise41() {
        Clauses.promise(41, "Returns selectedCount() divided by rowCount(), both converted to float", () -> {
            Check.same("all", new PackedTable().selectivity(), 1.0f);
            Check.same("one row", Prepared.counting(1).selectivity(), 1.0f);
            Check.same("none", noneSelected().selectivity(), 0.0f);
            PackedTable third = Check.loaded("table 1;1;2;3;");
            third.addEqual(0, 2);
            Check.same("a third", third.selectivity(), 1.0f / 3.0f);
        });
        Clauses.promise(41, "0.0 without rows", () -> {
            Check.same("loaded", Prepared.bare().selectivity(), 0.0f);
            PackedTable table = new PackedTable();
            table.deleteSelected();
            Check.same("deleted", table.selectivity(), 0.0f);
        });
    }
}
