/** The boundaries that the document names, sentence by sentence: Terms 1 to 6, promises 1 to 35. */
final class EdgesTest {
  public static void main(String[] args) throws Exception {
    EdgesOfBook.run();
    EdgesOfPictures.run();
    EdgesOfNamings.run();
    EdgesOfFollowing.run();
    EdgesOfSky.run();
    EdgesOfRules.run();
    EdgesOfPromises.run();
    EdgesOfAnswers.run();
    Edge.compareWithDocument();
    Check.finish("EdgesTest");
  }
}
