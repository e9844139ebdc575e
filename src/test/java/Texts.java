/** Texts at the document's limits, found by search; the oracle and GraphBoundariesTest count them again. */
final class Texts {
    /** More than 1000 graphs by one. */
    static final String LARGE_BY_ONE =
            "act A3;act B3;call AB 0=0 1=2 2=1;call BA 1=1 1=0 2=2 0>1;call AA 1=0 1=2 2=1;call AA 0>2 1=0 2=2;";
    static final String JUST_1000 =
            "act A3;act B3;call AB 2=0 1>2 0=1;call BA 2=2 0>0 1=1;call AB 2=2 2>1 1=1 0=1 0=0;"
            + "call AA 1>1 2=2 0>1 1=0 0=0;call BA 0=1 2=0 2=1;";
    /** It ends and has 342 graphs, but with one of its arcs KEPT more than 1000. */
    static final String LARGE_IF_KEPT =
            "act A3;call AA 1=2 2=0 0>1 1=1;call AA 1=0 0=2 2>1;call AA 1=1 0>2 2=2 2=0 0=1;";
    static final String SHORTEST_OF_8 =
            "act A3;act B3;call AB 2>0 0=1 1=2;call BA 1=1 0>2;call BA 0=1 2=2;";
    /** It need not end, but the shortest way that shows it has nine calls. */
    static final String SHORTEST_OF_9 =
            "act A3;act B3;act C3;call AB 2=0 0=1 1=2;call BC 1=2 2=0 0=1;call CA 0=0 2=2;";
    /** It ends; a call between two of the other acts adds one graph. */
    static final String ENDS_999 =
            "act A3;call AA 0=2 1=0 2=0 2>1;call AA 1=2 1=1 2=0 2>2;call AA 2=1 1>1 0=0 1=2;"
            + "call AA 2>0 1=1 0>2 0=0;call AA 1>0 2>2 0=1;";
    /** It ends and has 575 graphs; with some arc KEPT 1000, with none of them more. */
    static final String IF_KEPT_1000 =
            "act A3;call AA 2=1 1=2 0>0;call AA 0>1 1=0 2>2;call AA 1>0 0>1 2=0 2=2 0=2;call AA 1=1 1>2 2>0 0=2;";
    /** It ends, also with an arc KEPT that was LESS; but with some arc KEPT where there was none it is LARGE. */
    static final String LARGE_IF_ONE_MORE =
            "act A3;act B3;call BA 1=0 2=1 0>2;call AA 1=2 0=1 2>0;call AB 1=1 0=2 2>0;call BA 1>0 1=2 2=2 2=1 1=1;";
    static final String EIGHT_CALLS = "call AA;call AA;call AA;call AA;call AA;call AA;call AA;call AA;";

    private Texts() { }
}
