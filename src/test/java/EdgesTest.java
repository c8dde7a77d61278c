/** Every sentence of the document that names a boundary, part by part. */
public final class EdgesTest {
    private static final String[] HEADS = {
        "`feed`, `pit`, `fault`, `way`, `fall`, `count` the interface says: ---- the pit",
        "`man`, `lamp`, `told`, `light`, `moves` the interface says: ---- men, lamps",
        "`soonest`, `last`, `open`, `most`, `cut` the interface says: ---- walks",
        "`up`, `lent`, `mark` the interface says: ---- lamps",
        "`tells`, `toldBest`, `byTwo`, `tooLate` the interface says: ---- telling",
        "`go`, `clear`, `judge` the interface says: ---- plans",
        "`opens`, `safe`, `safest`, `knock` the interface says: ---- chances",
        "`keep`, `goBack` the interface says: ---- images"};

    public static void main(String[] args) {
        Edges edges = new Edges();
        for (String calls : HEADS) edges.plain("Ahead of the calls " + calls + ".");
        EdgesPart[] parts = {new EdgesOfPit(edges), new EdgesOfWalks(edges), new EdgesOfLamps(edges),
            new EdgesOfTelling(edges), new EdgesOfPlans(edges), new EdgesOfRefusals(edges)};
        for (EdgesPart part : parts) part.look();
        edges.end();
    }
}
