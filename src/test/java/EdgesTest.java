/** Every sentence of the document that names an edge: each test names its part or its promise, and quotes the sentence. */
final class EdgesTest {
    public static void main(String[] args) {
        EdgesTexts.all();
        EdgesTimes.all();
        EdgesSky.all();
        EdgesPower.all();
        EdgesMemory.all();
        EdgesPrograms.all();
        EdgesModes.all();
        EdgesLink.all();
        EdgesGround.all();
        EdgesCommands.all();
        EdgesPlans.all();
        Doc.allAreNamed();
        Probe.finish("EdgesTest");
    }
}
