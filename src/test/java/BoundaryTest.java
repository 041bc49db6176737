import java.io.IOException;

/** Promises 1 to 63 and the terms: a test of its own for each clause of the document that names a boundary case. */
final class BoundaryTest {
    public static void main(String[] args) throws IOException {
        Clauses.read();
        TableTerms.test();
        TextTerms.test();
        ChangeTerms.test();
        InputClauses.test();
        ValueClauses.test();
        PackingClauses.test();
        FilterClauses.test();
        WhatIfClauses.test();
        ChangeClauses.test();
        HistoryClauses.test();
        Clauses.finish();
        Check.finish();
    }
}
