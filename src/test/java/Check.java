/** Counts the answers that are not the ones that are due, and ends the test with them. */
final class Check {
  private final String name;
  private String sentence = "";
  private int sentences;
  private int askedBefore;
  private int asked;
  private int wrong;

  Check(String name) {
    this.name = name;
  }

  /** What is asked from here on is the test of these words of the document. */
  void sentence(String words) {
    endSentence();
    sentence = words;
    sentences++;
    askedBefore = asked;
  }

  /** As above; the note says which side of the words it is. */
  void sentence(String words, String note) {
    sentence(words + "; here: " + note);
  }

  void due(String call, long got, long want) {
    asked++;
    if (got != want) {
      tellWrong(call + " answered " + got + ", due is " + want);
    }
  }

  void end() {
    endSentence();
    String of = sentences == 0 ? "" : sentences + " sentences, ";
    System.out.println(name + ": " + of + asked + " answers, " + wrong + " wrong");
    if (wrong != 0) {
      System.exit(1);
    }
  }

  /** A sentence for which nothing was asked would hold whatever the class does. */
  private void endSentence() {
    if (sentences > 0 && asked == askedBefore) {
      tellWrong("nothing was asked");
    }
  }

  private void tellWrong(String what) {
    wrong++;
    if (wrong <= 50) {
      System.out.println(name + ": " + (sentence.isEmpty() ? "" : "[" + sentence + "] ") + what);
    }
  }
}
