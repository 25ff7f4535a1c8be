/** Beginnings that several tests share. */
final class Stories {
    /**
     * HEIGHT 3, WAIT 3; NODE 0 is IN, 1 is IN and FROZEN, 2 LEAVES at 5, 3 JOINS, 4 is OUT; 30 and 5 are DRAWN,
     * due at 5 and at 6; ACCOUNTS 0, 1 and 9 have STAKES, ACCOUNTS 2 to 6 are KEEPERS.
     */
    static final String BUSY = "rule(0, 3); rule(1, 1000); rule(2, 2); rule(3, 500);"
        + "node(2, 0); node(3, 10); node(4, 20); node(5, 30); node(6, 100);"
        + "fund(0, 1000); fund(1, 700); fund(9, 300);"
        + "stake(0, 0, 400); stake(1, 0, 50); stake(1, 1, 200); stake(9, 2, 100); stake(0, 2, 7); stake(9, 3, 60);"
        + "stake(0, 4, 5); join(0); join(1); join(2); advance(2); leave(2); draw(0, 0, 30); freeze(1, true); advance(1);"
        + "draw(1, 0, 5); join(3);";

    /** BUSY, and on to HEIGHT 100, where 11 are DRAWN by ACCOUNT 9, due at 103. */
    static final String TALL = BUSY + "advance(97); draw(9, 2, 11);";

    /** Eight NODES with STAKES, seven of them IN; 1,000,000 is funded; HEIGHT 2. */
    static final String FULL = "fund(0, 100000); fund(1, 100000); fund(2, 100000); fund(3, 100000); fund(4, 100000);"
        + "fund(5, 100000); fund(6, 100000); fund(7, 100000); fund(8, 100000); fund(9, 100000);"
        + "node(0, 5); node(1, 5); node(2, 5); node(3, 5); node(4, 5); node(5, 5); node(6, 5); node(7, 5);"
        + "stake(0, 0, 1000); stake(1, 1, 2000); stake(2, 2, 3000); stake(3, 3, 4000); stake(4, 4, 5000);"
        + "stake(5, 5, 6000); stake(6, 6, 7000); stake(7, 7, 100000);"
        + "join(0); join(1); join(2); join(3); join(4); join(5); join(6); advance(2);";

    private Stories() { }

    /** So many times 100,000 for an ACCOUNT. */
    static String rich(int account, int times) {
        return ("fund(" + account + ", 100000);").repeat(times);
    }
}
