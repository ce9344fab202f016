import java.util.Set;

/**
 * Each sentence of the document that names a boundary case has a test of its own: too small, too large, empty, full, a
 * wrap-around, a refused call. The sentences are looked up in the document, and one that has no test is reported.
 */
public final class BoundaryTest {
    /** The pieces that name no boundary; what they say is tested in PromiseTest. */
    private static final Set<String> WITHOUT = Set.of(
        "A workbench for the extended binary Golay code and the permutations that preserve it (subgroups of the Mathieu "
        + "group M24).",
        "The class computes code words, octads and dodecads, distances to the code, Steiner completion, sextets, reads "
        + "permutations from texts in cycle notation, computes orders, orbits and stabilizers of the groups that they "
        + "generate, membership, and group elements with prescribed images, and the Steiner system S(5, 6, 12) within a "
        + "dodecad.",
        "Returns a property of a set of points.", "`set`: the set", "Returns the property",
        "Returns a word, octad or dodecad.", "`k`: its number", "Returns the set",
        "Returns the octad that contains five points.", "`set`: a set of five points", "Returns the octad",
        "Returns a tetrad of a set of four points.", "`set`: the set of four points", "Returns the tetrad",
        "`one`: a set of four points", "Returns the number of octads",
        "Returns where a point goes.", "Returns the point to which it goes",
        "Returns a property of a permutation.", "Returns a character of the text of a permutation.",
        "Returns the set to which a set of points goes.", "Returns the set of the images of its points",
        "Returns a property of a group.", "`moves`: the set of permutations that generate it", "Returns the number",
        "Tells what a group does with a set of points.", "`moves`: the set of permutations that generate the group",
        "`set`: the set of points", "Returns the set or the number", "Tells whether a permutation is in a group.",
        "Sets D.", "`set`: the dodecad", "Returns the hexad that contains five points of D.", "Returns the hexad",
        "`p`: a point that is not in D", "`q`: another point that is not in D",
        "Returns the two points that are an octad together with a hexad.", "`set`: the hexad",
        "Returns the set of these two points", "Sets the random number.", "Returns a number.",
        "`i`: the index of the first element", "Returns the number of these elements of the group",
        "`i`: the index", "`v`: the value", "`i`: the first index in the source", "`j`: the first index in the target",
        "`n`: the number of elements");

    public static void main(String[] args) {
        Check check = new Check("BoundaryTest");
        Boundaries boundaries = new Boundaries(check);
        new ErrorBoundaries(boundaries).test();
        new CodeBoundaries(boundaries).test();
        new MoveBoundaries(boundaries).test();
        new TextBoundaries(boundaries).test();
        new GroupBoundaries(boundaries).test();
        new ChangeBoundaries(boundaries).test();
        new SheetBoundaries(boundaries).test();
        boundaries.end(WITHOUT);
        check.end();
    }
}
