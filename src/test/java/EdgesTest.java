/** Each sentence of the document that names a boundary case, by the number of its promise. */
public final class EdgesTest {
    public static void main(String[] args) throws java.io.IOException {
        SectionEdges.all();
        DescriptionEdges.all();
        QueryEdges.all();
        ActionEdges.all();
        RefusalEdges.all();
        Sentences.check();
        Script.end();
    }
}
