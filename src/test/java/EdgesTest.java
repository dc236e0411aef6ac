/** Every sentence of the document that names a boundary case, each with answers of its own. */
public final class EdgesTest {
  private EdgesTest() {
  }

  public static void main(String[] args) throws Exception {
    Due.begin();
    EdgesOfVillages.run();
    EdgesOfWays.run();
    EdgesOfHouses.run();
    EdgesOfDrawers.run();
    EdgesOfKeeping.run();
    Due.end();
  }
}
