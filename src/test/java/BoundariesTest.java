/** Each sentence of the document that names a boundary case, with a test of its own. */
public final class BoundariesTest extends Boundary {
    public static void main(String[] args) throws Exception {
        begin(args.length > 1 ? args[1] : "../shared/DOC.md");
        TermBoundaries.tellAll();
        StateBoundaries.tellAll();
        FutureBoundaries.tellAll();
        end("BoundariesTest");
    }
}
