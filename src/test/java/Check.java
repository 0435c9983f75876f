/** Counts and prints the answers that are not the ones that are due. */
final class Check {
  private String sentence = "";
  private int wrong = 0;

  /** The words of the document by which the answers from here on are due; they stand in what is printed. */
  void sentence(String words) {
    sentence = "[" + words + "] ";
  }

  void due(String call, long got, long want) {
    if (got != want) {
      wrong++;
      System.out.println(sentence + call + " answered " + got + ", due is " + want);
    }
  }

  void due(String call, boolean got, boolean want) {
    due(call, got ? 1 : 0, want ? 1 : 0);
  }

  void threw(String call, RuntimeException thrown, long want) {
    wrong++;
    System.out.println(sentence + call + " threw " + thrown + ", due is " + want);
  }

  void end() {
    System.out.println(wrong == 0 ? "all answers are as due" : wrong + " answers are not as due");
    if (wrong != 0) {
      System.exit(1);
    }
  }
}
