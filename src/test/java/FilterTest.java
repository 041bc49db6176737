/** Promises 24 to 41: the filter and what it selects. */
final class FilterTest {
    private static final int[] NO_COLUMNS = {-1, 3, 5, 6, Integer.MIN_VALUE, Integer.MAX_VALUE};
    private static final int[] NO_CONDITIONS = {-1, 2, 7, 8, Integer.MIN_VALUE, Integer.MAX_VALUE};

    public static void main(String[] args) {
        promise24();
        promises25To27();
        promises28And29();
        promises28And29WithStaleValues();
        promise30();
        promise31();
        promise32();
        promises33And34();
        promise35();
        promise36();
        promises37And38();
        promise39();
        promise40();
        promise41();
        noSuchIndex();
        Check.finish();
    }

    private static PackedTable filtered() {
        PackedTable table = new PackedTable();
        table.addGreater(0, 1);
        table.addEqual(2, 7);
        return table;
    }

    private static void promise24() {
        PackedTable table = new PackedTable();
        for (int count = 0; count < 8; count++) {
            Check.same("24 count", table.conditionCount(), count);
            table.addLess(0, count);
        }
        Check.same("24 eight", table.conditionCount(), 8);
        table.removeCondition(3);
        Check.same("24 seven", table.conditionCount(), 7);
        Check.load(table, "table 1;");
        Check.same("24 loaded", table.conditionCount(), 0);
    }

    private static void promises25To27() {
        PackedTable table = filtered();
        table.addLess(1, -9999);
        Check.same("25 first", table.conditionColumn(0), 0);
        Check.same("25 second", table.conditionColumn(1), 2);
        Check.same("25 third", table.conditionColumn(2), 1);
        Check.same("26 first", table.conditionValue(0), 1);
        Check.same("26 second", table.conditionValue(1), 7);
        Check.same("26 third", table.conditionValue(2), -9999);
        Check.same("27 greater", table.conditionDirection(0), 1);
        Check.same("27 equal", table.conditionDirection(1), 0);
        Check.same("27 less", table.conditionDirection(2), -1);
        table.removeCondition(0);
        Check.same("indexes decrease", Check.filter(table), "2=7 1<-9999");
    }

    private static void promises28And29() {
        range("less", -1, 5, 0, 1);
        range("less than between", -1, 6, 0, 2);
        range("less than the least", -1, 1, 0, 0);
        range("less than all", -1, -9999, 0, 0);
        range("less than much", -1, 9999, 0, 3);
        range("equal", 0, 5, 1, 2);
        range("equal to the greatest", 0, 9, 2, 3);
        PackedTable neighbours = Check.loaded("table 1;4;5;6;");
        neighbours.addEqual(0, 5);
        Check.same("28 neighbours", neighbours.lowerCode(0), 1);
        Check.same("29 neighbours", neighbours.upperCode(0), 2);
        range("equal to none", 0, 6, 2, 2);
        range("equal to less", 0, -1, 0, 0);
        range("equal to more", 0, 10, 3, 3);
        range("greater", 1, 1, 1, 3);
        range("greater than between", 1, 6, 2, 3);
        range("greater than the greatest", 1, 9, 3, 3);
        range("greater than much", 1, 9999, 3, 3);
        range("greater than little", 1, -9999, 0, 3);
        PackedTable empty = Check.loaded("table 1;");
        empty.addLess(0, 0);
        empty.addEqual(0, 0);
        empty.addGreater(0, 0);
        for (int condition = 0; condition < 3; condition++) {
            Check.same("28 empty dictionary", empty.lowerCode(condition), 0);
            Check.same("29 empty dictionary", empty.upperCode(condition), 0);
        }
    }

    private static void range(String what, int direction, int value, int lower, int upper) {
        PackedTable table = new PackedTable();
        table.addLess(1, 3);
        if (direction < 0) {
            table.addLess(0, value);
        } else if (direction > 0) {
            table.addGreater(0, value);
        } else {
            table.addEqual(0, value);
        }
        Check.same("28 " + what, table.lowerCode(1), lower);
        Check.same("29 " + what, table.upperCode(1), upper);
    }

    private static void promises28And29WithStaleValues() {
        PackedTable table = new PackedTable();
        table.addEqual(0, 9);
        table.addGreater(0, 6);
        table.addLess(0, 6);
        table.addEqual(0, 3);
        table.setValue(0, 3, 3);
        Check.same("28 stale equal", table.lowerCode(0), 3);
        Check.same("29 stale equal", table.upperCode(0), 4);
        Check.same("28 stale greater", table.lowerCode(1), 3);
        Check.same("29 stale greater", table.upperCode(1), 4);
        Check.same("29 inserted less", table.upperCode(2), 3);
        Check.same("28 inserted equal", table.lowerCode(3), 1);
        Check.same("29 inserted equal", table.upperCode(3), 2);
        table.compact(0);
        Check.same("28 compacted equal", table.lowerCode(0), 3);
        Check.same("29 compacted equal", table.upperCode(0), 3);
        Check.same("28 compacted greater", table.lowerCode(1), 3);
        Check.same("29 compacted greater", table.upperCode(1), 3);
    }

    private static void promise30() {
        PackedTable table = filtered();
        table.addLess(1, -2);
        Check.same("30 greater", table.matches(0), 4);
        Check.same("30 equal", table.matches(1), 4);
        Check.same("30 none", table.matches(2), 0);
        table.removeCondition(2);
        table.addLess(1, -1);
        Check.same("30 less", table.matches(2), 3);
        table.deleteSelected();
        Check.same("30 rows left", table.matches(0), 2);
    }

    private static void promise31() {
        PackedTable table = new PackedTable();
        Check.same("31 none", table.strictestCondition(), -1);
        table.addLess(0, 10);
        Check.same("31 all rows match", table.strictestCondition(), 0);
        table.addGreater(0, 1);
        Check.same("31 second", table.strictestCondition(), 1);
        table.addEqual(2, 7);
        Check.same("31 equal matches", table.strictestCondition(), 1);
        table.addEqual(0, 77);
        table.addEqual(1, 77);
        Check.same("31 no matches", table.strictestCondition(), 3);
        PackedTable full = Check.loaded("table 1;" + Check.repeat("1;", 60));
        full.addEqual(0, 1);
        Check.same("31 sixty matches", full.strictestCondition(), 0);
        full.deleteSelected();
        Check.same("31 without rows", full.strictestCondition(), 0);
    }

    private static void promise32() {
        PackedTable table = filtered();
        boolean[] due = {true, false, false, true, false, true};
        for (int row = 0; row < 6; row++) {
            Check.same("32 row " + row, table.isSelected(row), due[row]);
        }
        table.addLess(1, 0);
        Check.same("32 third condition", table.isSelected(5), false);
        Check.same("32 still", table.isSelected(0), true);
        Check.same("32 empty filter", new PackedTable().isSelected(4), true);
        Check.outside("32 row -1", () -> table.isSelected(-1));
        Check.outside("32 row 6", () -> table.isSelected(6));
        Check.outside("32 least row", () -> table.isSelected(Integer.MIN_VALUE));
    }

    private static void promises33And34() {
        PackedTable table = filtered();
        Check.same("33 count", table.selectedCount(), 3);
        Check.same("34 place 0", table.selectedRow(0), 0);
        Check.same("34 place 1", table.selectedRow(1), 3);
        Check.same("34 place 2", table.selectedRow(2), 5);
        Check.same("34 place 3", table.selectedRow(3), -1);
        Check.same("34 place -1", table.selectedRow(-1), -1);
        Check.same("34 least place", table.selectedRow(Integer.MIN_VALUE), -1);
        Check.same("34 greatest place", table.selectedRow(Integer.MAX_VALUE), -1);
        table.addLess(0, 0);
        Check.same("33 none", table.selectedCount(), 0);
        Check.same("34 none", table.selectedRow(0), -1);
        PackedTable all = new PackedTable();
        Check.same("33 empty filter", all.selectedCount(), 6);
        Check.same("34 empty filter", all.selectedRow(5), 5);
        all.deleteSelected();
        Check.same("33 no rows", all.selectedCount(), 0);
        Check.same("34 no rows", all.selectedRow(0), -1);
    }

    private static void promise35() {
        PackedTable table = filtered();
        int[] due = {-1, 0, 1, -1, 0, -1};
        for (int row = 0; row < 6; row++) {
            Check.same("35 row " + row, table.rejectedBy(row), due[row]);
        }
        Check.outside("35 row -1", () -> table.rejectedBy(-1));
        Check.outside("35 row 6", () -> table.rejectedBy(6));
    }

    private static void promise36() {
        PackedTable table = filtered();
        Check.same("36 column 0", table.sumSelected(0), 19);
        Check.same("36 column 1", table.sumSelected(1), -4);
        Check.same("36 column 2", table.sumSelected(2), 21);
        table.addLess(0, 0);
        Check.same("36 none", table.sumSelected(0), 0);
        Check.same("36 empty filter", new PackedTable().sumSelected(0), 26);
        PackedTable great = Check.loaded("table 1;" + Check.repeat("9999;", 60));
        Check.same("36 great", great.sumSelected(0), 599940);
        PackedTable small = Check.loaded("table 1;" + Check.repeat("-9999;", 60));
        Check.same("36 small", small.sumSelected(0), -599940);
    }

    private static void promises37And38() {
        PackedTable table = filtered();
        Check.same("37 column 0", table.smallestSelected(0), 5);
        Check.same("38 column 0", table.greatestSelected(0), 9);
        Check.same("37 column 1", table.smallestSelected(1), -2);
        Check.same("38 column 1", table.greatestSelected(1), 0);
        table.addLess(0, 0);
        Check.notNow("37 none", () -> table.smallestSelected(0));
        Check.notNow("38 none", () -> table.greatestSelected(0));
        Check.outside("37 column first", () -> table.smallestSelected(3));
        Check.outside("38 column first", () -> table.greatestSelected(-1));
        PackedTable below = Check.loaded("table 1;-7;-9999;-3;");
        Check.same("37 below 0", below.smallestSelected(0), -9999);
        Check.same("38 below 0", below.greatestSelected(0), -3);
        Check.same("38 alone", Check.loaded("table 1;4;3;").greatestSelected(0), 4);
        Check.same("37 alone", Check.loaded("table 1;3;4;").smallestSelected(0), 3);
        below.deleteSelected();
        Check.notNow("37 no rows", () -> below.smallestSelected(0));
        Check.notNow("38 no rows", () -> below.greatestSelected(0));
    }

    private static void promise39() {
        PackedTable table = filtered();
        Check.same("39 column 0", table.distinctSelected(0), 2);
        Check.same("39 column 1", table.distinctSelected(1), 2);
        Check.same("39 column 2", table.distinctSelected(2), 1);
        Check.same("39 three rows", Check.loaded("table 1;1;2;3;").distinctSelected(0), 3);
        Check.same("39 empty filter", new PackedTable().distinctSelected(0), 3);
        table.setValue(0, 0, 9);
        Check.same("39 stale values don't count", table.distinctSelected(0), 2);
        table.addLess(0, 0);
        Check.same("39 none", table.distinctSelected(0), 0);
    }

    private static void promise40() {
        PackedTable table = filtered();
        Check.same("40 column 0", table.meanSelected(0), 19.0 / 3.0);
        Check.same("40 column 1", table.meanSelected(1), -4.0 / 3.0);
        table.addGreater(0, 5);
        Check.same("40 one row", table.meanSelected(0), 9.0);
        table.addLess(0, 0);
        Check.same("40 none", table.meanSelected(0), 0.0);
        table.deleteSelected();
        PackedTable empty = Check.loaded("table 1;");
        Check.same("40 no rows", empty.meanSelected(0), 0.0);
        Check.same("40 sum 0", Check.loaded("table 1;-1;1;").meanSelected(0), 0.0);
    }

    private static void promise41() {
        PackedTable table = new PackedTable();
        Check.same("41 all", table.selectivity(), 1.0f);
        Check.same("41 one row", Check.loaded("table 1;7;").selectivity(), 1.0f);
        table.addGreater(0, 1);
        Check.same("41 float division", table.selectivity(), 4.0f / 6.0f);
        table.addLess(0, 0);
        Check.same("41 none", table.selectivity(), 0.0f);
        Check.same("41 no rows", Check.loaded("table 1;").selectivity(), 0.0f);
    }

    private static void noSuchIndex() {
        PackedTable table = filtered();
        for (int condition : NO_CONDITIONS) {
            Check.outside("25 condition " + condition, () -> table.conditionColumn(condition));
            Check.outside("26 condition " + condition, () -> table.conditionValue(condition));
            Check.outside("27 condition " + condition, () -> table.conditionDirection(condition));
            Check.outside("28 condition " + condition, () -> table.lowerCode(condition));
            Check.outside("29 condition " + condition, () -> table.upperCode(condition));
            Check.outside("30 condition " + condition, () -> table.matches(condition));
        }
        for (int column : NO_COLUMNS) {
            Check.outside("36 column " + column, () -> table.sumSelected(column));
            Check.outside("37 column " + column, () -> table.smallestSelected(column));
            Check.outside("38 column " + column, () -> table.greatestSelected(column));
            Check.outside("39 column " + column, () -> table.distinctSelected(column));
            Check.outside("40 column " + column, () -> table.meanSelected(column));
        }
    }
}
