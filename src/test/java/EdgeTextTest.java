/** The edges that promises 9 to 12, TEXTS and COMMANDS name, each sentence by itself. */
public final class EdgeTextTest {
  private static final String TWELVE = "v0/1;v0/1;v0/1;v0/1;v0/1;v0/1;v0/1;v0/1;v0/1;v0/1;v0/1;v0/1";

  public static void main(String[] args) {
    promise9AtMostSixty();
    promise9FullForAnyCharacter();
    promise9AnyCharacter();
    promise9IsNoAct();
    promise10EmptyAndFull();
    promise10IsNoAct();
    promise11EmptyText();
    promise11OnePartAndTwelve();
    promise11DigitsOfALeak();
    promise11DigitsOfAVolume();
    promise11ZerosInFront();
    promise11VolumeIsNotZero();
    promise11OneSemicolonBetweenTwo();
    promise11EndsTooEarly();
    promise11SixtyCharacters();
    promise11FirstOfTwoFaults();
    promise11EveryPlaceAndSign();
    promise11CharactersBeyondTheUsual();
    promise11PlacesLeft();
    promise11AllOrNone();
    promise11FaultAheadOfFull();
    promise11OneAct();
    promise11TextStays();
    promise12JustOneWord();
    promise12EveryChangedSign();
    promise12FullText();
    promise12NoCommandAheadOfNone();
    promise12Step();
    promise12TurnOfFewestAndMost();
    promise12StopOfNone();
    promise12StopOfOneAndSixty();
    promise12StopLeavesTheOthers();
    promise12ClearOfNone();
    promise12ClearOfOneAndEight();
    promise12ClearComesToTheFront();
    promise12ClearWithoutATest();
    promise12TextStays();
    Check.finish();
  }

  private static void dueRefusedReading(String words, int due) {
    Told.dueRefused("readParts() of " + words, Told.written(Told::fresh, words), LeakCarousel::readParts, due);
  }

  private static void dueFault(String words, int fault) {
    dueRefusedReading(words, -100 - fault);
  }

  /** One part, read as the next one of a carousel at work. */
  private static void duePart(String words, boolean pipe, int leak, int volume) {
    Told.dueAct("readParts() of " + words, Told.written(Told::busy, words), LeakCarousel::readParts, 1);
    LeakCarousel x = Told.busy();
    Runs.read(x, words);
    Check.due("part(5, 0) of " + words, x.part(5, 0), pipe ? 1 : 0);
    Check.due("part(5, 1) of " + words, x.part(5, 1), leak);
    Check.due("part(5, 2) of " + words, x.part(5, 2), volume);
  }

  // ---- promise 9: type

  /** "There is a text of at most 60 characters, empty at first" */
  private static void promise9AtMostSixty() {
    LeakCarousel x = new LeakCarousel();
    Check.due("count(16) at first", x.count(16), 0);
    for (int length = 1; length <= 60; length++) {
      Check.due("type", x.type('1'), length);
      Check.due("count(16)", x.count(16), length);
    }
    Check.due("the 61st", x.type('1'), LeakCarousel.FULL);
    Check.due("count(16)", x.count(16), 60);
    Check.due("clearText()", x.clearText(), 60);
    Check.due("type", x.type('1'), 1);
  }

  /** "FULL if it has 60 characters": the text is then as it was. */
  private static void promise9FullForAnyCharacter() {
    Told.Made full = Told.written(Told::busy, TWELVE + ";");
    Check.due("count(16)", full.make().count(16), 60);
    char[] any = {0, 1, ';', 'v', 255, 256, 0x7FFF, 0x8000, 0xFFFF};
    for (char sign : any) {
      Told.dueRefused("type((char) " + (int) sign + ")", full, x -> x.type(sign), LeakCarousel.FULL);
    }
    Told.Made whole = Told.written(Told::busy, TWELVE + "0");
    Told.dueRefused("type('0')", whole, x -> x.type('0'), LeakCarousel.FULL);
    LeakCarousel x = whole.make();
    x.type(';');
    Check.due("readParts()", x.readParts(), 12);
  }

  /** "any character": the least, the greatest, and those that do not fit into a byte. */
  private static void promise9AnyCharacter() {
    char[] any = {0, 9, 31, 32, 127, 128, 255, 256, 0x7FFF, 0x8000, 0xD800, 0xDFFF, 0xFFFE, 0xFFFF};
    LeakCarousel x = new LeakCarousel();
    for (int i = 0; i < any.length; i++) {
      Check.due("type((char) " + (int) any[i] + ")", x.type(any[i]), i + 1);
    }
    Check.due("count(16)", x.count(16), any.length);
    Check.due("readParts()", x.readParts(), -100);
    Check.due("perform()", x.perform(), LeakCarousel.BAD_VALUE);
    Check.due("clearText()", x.clearText(), any.length);
  }

  private static void promise9IsNoAct() {
    LeakCarousel x = new LeakCarousel();
    x.type('a');
    Check.due("count(15)", x.count(15), 0);
    Check.due("undo()", x.undo(), LeakCarousel.NONE);
    Check.due("count(16)", x.count(16), 1);
    String state = Told.state(Told::busy);
    Check.dueWords("the state behind type", Told.state(Told.behind(Told::busy, y -> y.type('v'))), state);
  }

  // ---- promise 10: clearText, "Returns the length that it had"

  private static void promise10EmptyAndFull() {
    LeakCarousel x = new LeakCarousel();
    Check.due("clearText() at first", x.clearText(), 0);
    x.type('v');
    Check.due("clearText() of one", x.clearText(), 1);
    Check.due("clearText() again", x.clearText(), 0);
    Runs.write(x, TWELVE);
    Check.due("clearText() of 59", x.clearText(), 59);
    Runs.write(x, TWELVE + "1");
    Check.due("clearText() of 60", x.clearText(), 60);
    Check.due("clearText() again", x.clearText(), 0);
    Check.due("readParts()", x.readParts(), -100);
    Check.due("perform()", x.perform(), LeakCarousel.BAD_VALUE);
    Check.due("type", x.type('v'), 1);
    Check.due("what was there is gone", x.readParts(), -101);
  }

  private static void promise10IsNoAct() {
    LeakCarousel x = Told.busy();
    x.clearText();
    Check.due("undo()", x.undo(), 3);
    Check.due("undo leaves the text", x.count(16), 0);
    LeakCarousel y = new LeakCarousel();
    y.type('v');
    y.clearText();
    Check.due("count(15)", y.count(15), 0);
  }

  // ---- promise 11: readParts

  /** "the length of the text if it ends too early (the empty text does)" */
  private static void promise11EmptyText() {
    dueFault("", 0);
    LeakCarousel x = Told.busy();
    x.clearText();
    Check.due("readParts() of a text that was cleared", x.readParts(), -100);
  }

  /** "A text of parts is one or more parts": one, and the twelve that 60 characters have room for. */
  private static void promise11OnePartAndTwelve() {
    duePart("v0/1", false, 0, 1);
    duePart("p0/1", true, 0, 1);
    Told.dueAct("readParts() of twelve", Told.written(Told::fresh, TWELVE), LeakCarousel::readParts, 12);
    LeakCarousel x = Told.written(Told::fresh, TWELVE).make();
    x.readParts();
    Check.due("count(2)", x.count(2), 12);
    for (int i = 0; i < 12; i++) {
      Check.due("part(i, 8)", x.part(i, 8), i);
    }
  }

  /** "A leak has one to five digits" */
  private static void promise11DigitsOfALeak() {
    duePart("v9/1", false, 9, 1);
    duePart("v10/1", false, 10, 1);
    duePart("v10000/1", false, 10000, 1);
    duePart("p99999/1", true, 99999, 1);
    dueFault("v100000/1", 6);
    dueFault("v999999/1", 6);
    dueFault("v/1", 1);
    dueFault("p12345;", 6);
  }

  /** "a volume one to three" */
  private static void promise11DigitsOfAVolume() {
    duePart("v1/1", false, 1, 1);
    duePart("v1/9", false, 1, 9);
    duePart("v1/10", false, 1, 10);
    duePart("p1/100", true, 1, 100);
    duePart("p1/999", true, 1, 999);
    dueFault("p1/1000", 6);
    dueFault("p1/9999", 6);
    dueFault("p1/;", 3);
    dueFault("p1/", 3);
  }

  /** "both without zeros in front (unless it is the single digit 0 ...)" */
  private static void promise11ZerosInFront() {
    duePart("v0/100", false, 0, 100);
    duePart("v100/100", false, 100, 100);
    dueFault("v00/1", 2);
    dueFault("v01/1", 2);
    dueFault("v09999/1", 2);
    dueFault("v1/01", 3);
    dueFault("v1/001", 3);
  }

  /** "a volume cannot be 0" */
  private static void promise11VolumeIsNotZero() {
    dueFault("v1/0", 3);
    dueFault("v0/0", 3);
    dueFault("v99999/0", 7);
    dueFault("v1/0;v1/1", 3);
    dueFault("v1/1;p1/0", 8);
  }

  /** "with \";\" between two" */
  private static void promise11OneSemicolonBetweenTwo() {
    dueFault(";", 0);
    dueFault(";v1/1", 0);
    dueFault("v1/1;", 5);
    dueFault("v1/1;;v1/1", 5);
    dueFault("v1/1,v1/1", 4);
    dueFault("v1/1v1/1", 4);
    dueFault("v1/1; v1/1", 5);
    Told.dueAct("readParts() of two", Told.written(Told::fresh, "v1/1;p1/1"), LeakCarousel::readParts, 2);
  }

  /** "or the length of the text if it ends too early": wherever a text is cut. */
  private static void promise11EndsTooEarly() {
    String words = "v12345/123;p7/9;v0/1";
    boolean[] whole = new boolean[words.length() + 1];
    int[] ends = {8, 9, 10, 15, 20};
    for (int end : ends) {
      whole[end] = true;
    }
    for (int end = 0; end <= words.length(); end++) {
      LeakCarousel x = Told.written(Told::fresh, words.substring(0, end)).make();
      int due = !whole[end] ? -100 - end : end <= 10 ? 1 : end == 15 ? 2 : 3;
      Check.due("readParts() of " + words.substring(0, end), x.readParts(), due);
    }
  }

  private static void promise11SixtyCharacters() {
    dueFault(TWELVE + ";", 60);
    dueFault(TWELVE + "x", 59);
    dueFault(TWELVE.substring(0, 55) + "v100/", 60);
    dueFault(TWELVE.substring(0, 55) + "v00/1", 57);
    LeakCarousel x = Told.written(Told::fresh, TWELVE + "2").make();
    Check.due("readParts()", x.readParts(), 12);
    Check.due("the last sign counts", x.part(11, 2), 12);
    // the 61st sign would have made it whole
    LeakCarousel y = Told.written(Told::fresh, TWELVE.substring(0, 55) + "v100/").make();
    Check.due("type", y.type('1'), LeakCarousel.FULL);
    Check.due("readParts()", y.readParts(), -160);
  }

  /** "the first character that is not allowed at its place" */
  private static void promise11FirstOfTwoFaults() {
    dueFault("xv1/0", 0);
    dueFault("vx/0", 1);
    dueFault("v01/0", 2);
    dueFault("v1/0/", 3);
    dueFault("v1/1;x;x", 5);
    dueFault("v1/1x;", 4);
  }

  /** Each place of a text with each of many signs, against the document told by a regular expression. */
  private static void promise11EveryPlaceAndSign() {
    String[] texts = {"v1/1", "p12345/123", "v0/9;p10/10", "v99999/999;v1/1", "p20/30;v0/1;p7/700"};
    String signs = "0123456789/;vpVP. :-+x\0";
    for (String words : texts) {
      for (int at = 0; at <= words.length(); at++) {
        for (int i = 0; i < signs.length(); i++) {
          String rest = at < words.length() ? words.substring(at + 1) : "";
          compare(words.substring(0, at) + signs.charAt(i) + rest);
          compare(words.substring(0, at) + signs.charAt(i) + words.substring(at));
        }
      }
    }
  }

  private static void compare(String words) {
    LeakCarousel x = new LeakCarousel();
    Model m = new Model();
    for (int i = 0; i < words.length(); i++) {
      Check.due("type", x.type(words.charAt(i)), m.type(words.charAt(i)));
    }
    Check.due("readParts() of " + words, x.readParts(), m.readParts());
    Check.due("count(2) of " + words, x.count(2), m.count(2));
    for (int part = 0; part < m.count(2); part++) {
      for (int what = 0; what <= 2; what++) {
        Check.due("part(part, what) of " + words, x.part(part, what), m.part(part, what));
      }
    }
  }

  /** A character is no other one because its low bits are alike, and no digit of another script. */
  private static void promise11CharactersBeyondTheUsual() {
    String words = "v12/34";
    int[] off = {128, 256, 0x8000, 0xFF00, 0xFEE0};
    for (int at = 0; at < words.length(); at++) {
      for (int more : off) {
        char sign = (char) (words.charAt(at) + more);
        dueFault(words.substring(0, at) + sign + words.substring(at + 1), at);
      }
      dueFault(words.substring(0, at) + (char) 0 + words.substring(at + 1), at);
      dueFault(words.substring(0, at) + (char) 0xFFFF + words.substring(at + 1), at);
      dueFault(words.substring(0, at) + (char) 0x0661 + words.substring(at + 1), at);
    }
    // right beside the digits
    dueFault("v:/1", 1);
    dueFault("v1:/1", 2);
    dueFault("v1./1", 2);
    dueFault("v1/:", 3);
    dueFault("v1/1:", 4);
    dueFault("v1/1/", 4);
  }

  /** "FULL if there are not so many places left" */
  private static void promise11PlacesLeft() {
    Told.Made fortyEight = Told.written(() -> Told.withParts(48), TWELVE);
    Told.dueAct("twelve for twelve places", fortyEight, LeakCarousel::readParts, 12);
    Told.Made fortyNine = Told.written(() -> Told.withParts(49), TWELVE);
    Told.dueRefused("twelve for eleven", fortyNine, LeakCarousel::readParts, LeakCarousel.FULL);
    Told.Made fiftyNine = Told.written(() -> Told.withParts(59), "v1/1");
    Told.dueAct("one for one", fiftyNine, LeakCarousel::readParts, 1);
    Told.Made sixty = Told.written(Told::full, "v1/1");
    Told.dueRefused("one for none", sixty, LeakCarousel::readParts, LeakCarousel.FULL);
    LeakCarousel x = fortyEight.make();
    x.readParts();
    Check.due("count(2)", x.count(2), 60);
    Check.due("part(59, 8)", x.part(59, 8), 59);
    Check.due("readParts() again", x.readParts(), LeakCarousel.FULL);
    x.undo();
    Check.due("readParts() behind undo", x.readParts(), 12);
  }

  /** "all of them, or none" */
  private static void promise11AllOrNone() {
    Told.Made twoForOne = Told.written(() -> Told.withParts(59), "v1/1;p2/2");
    Told.dueRefused("two for one place", twoForOne, LeakCarousel::readParts, LeakCarousel.FULL);
    LeakCarousel x = twoForOne.make();
    x.readParts();
    Check.due("count(2)", x.count(2), 59);
    Check.due("part(59, 0)", x.part(59, 0), LeakCarousel.UNKNOWN);
    dueFault("v1/1;p2/2;v3/3;x", 15);
  }

  /** "-100 minus the fault of the text if it has one (which is an error); FULL": the first of the two. */
  private static void promise11FaultAheadOfFull() {
    Told.dueRefused("an empty text at 60", Told.written(Told::full, ""), LeakCarousel::readParts, -100);
    Told.dueRefused("a bad sign at 60", Told.written(Told::full, "x"), LeakCarousel::readParts, -100);
    Told.dueRefused("an early end at 60", Told.written(Told::full, "v1/1;"), LeakCarousel::readParts, -105);
    Told.Made twelve = Told.written(() -> Told.withParts(59), TWELVE + ";");
    Told.dueRefused("an early end of twelve", twelve, LeakCarousel::readParts, -160);
  }

  /** "This is one act." */
  private static void promise11OneAct() {
    LeakCarousel x = new LeakCarousel();
    Runs.read(x, TWELVE);
    Check.due("count(15)", x.count(15), 1);
    Check.due("undo()", x.undo(), 0);
    Check.due("count(2)", x.count(2), 0);
    Check.due("undo()", x.undo(), LeakCarousel.NONE);
  }

  /** "Adds the parts of the text, which stays" */
  private static void promise11TextStays() {
    LeakCarousel x = Told.written(Told::fresh, TWELVE).make();
    for (int i = 1; i <= 5; i++) {
      Check.due("readParts()", x.readParts(), 12);
      Check.due("count(16)", x.count(16), 59);
      Check.due("count(2)", x.count(2), 12 * i);
    }
    Check.due("readParts()", x.readParts(), LeakCarousel.FULL);
    Check.due("count(16)", x.count(16), 59);
    x.type('x');
    Check.due("readParts()", x.readParts(), -159);
    Check.due("count(16)", x.count(16), 60);
  }

  // ---- promise 12: perform

  private static void dueNoCommand(String words) {
    Told.Made made = Told.written(Told::busy, words);
    Told.dueRefused("perform() of " + words, made, LeakCarousel::perform, LeakCarousel.BAD_VALUE);
  }

  /** "just one of the words step, turn, stop and clear" */
  private static void promise12JustOneWord() {
    String[] words = {"step", "turn", "stop", "clear"};
    for (String word : words) {
      for (int end = 0; end < word.length(); end++) {
        dueNoCommand(word.substring(0, end));
        dueNoCommand(word.substring(end + 1));
      }
      dueNoCommand(word + " ");
      dueNoCommand(" " + word);
      dueNoCommand(word + ";");
      dueNoCommand(word + "\0");
      dueNoCommand("\0" + word);
      dueNoCommand(word + word);
      dueNoCommand(word + ";" + word);
      for (String other : words) {
        dueNoCommand(word + other);
      }
    }
    dueNoCommand("v1/1");
  }

  /** No sign of a word may be another one: of the other case, or with the same low bits. */
  private static void promise12EveryChangedSign() {
    String[] words = {"step", "turn", "stop", "clear"};
    for (String word : words) {
      for (int at = 0; at < word.length(); at++) {
        char sign = word.charAt(at);
        char[] others = {(char) (sign - 32), (char) (sign + 1), (char) (sign - 1), (char) (sign + 256),
          (char) (sign + 0x8000), 0, 0xFFFF};
        for (char other : others) {
          dueNoCommand(word.substring(0, at) + other + word.substring(at + 1));
        }
      }
    }
  }

  private static void promise12FullText() {
    dueNoCommand("stepstepstepstepstepstepstepstepstepstepstepstepstepstepstep");
    dueNoCommand("step                                                        ");
  }

  /** "BAD_VALUE if the text is no command; NONE": the first of two that could apply. */
  private static void promise12NoCommandAheadOfNone() {
    String[] wrong = {"", "stopp", "clears", "sto", "clea", "x"};
    for (String words : wrong) {
      Told.Made made = Told.written(Told::fresh, words);
      Told.dueRefused("perform() of " + words, made, LeakCarousel::perform, LeakCarousel.BAD_VALUE);
    }
  }

  /** "step does a step" */
  private static void promise12Step() {
    Told.dueAct("step of nothing", Told.written(Told::fresh, "step"), LeakCarousel::perform, 0);
    Told.dueAct("step at work", Told.written(Told::busy, "step"), LeakCarousel::perform, 1);
    Told.Made one = Told.written(Told::busy, "step");
    String run = Told.state(Told.behind(one, x -> x.run(1)));
    Check.dueWords("step", Told.state(Told.behind(one, LeakCarousel::perform)), run);
  }

  /** "turn does as many steps as there are heads" */
  private static void promise12TurnOfFewestAndMost() {
    for (int heads = 2; heads <= 8; heads++) {
      int many = heads;
      Told.Made made = Told.written(() -> Told.withHeads(many), "turn");
      Told.dueAct("turn of nothing", made, LeakCarousel::perform, 0);
      LeakCarousel x = made.make();
      for (int i = 0; i < 60; i++) {
        x.add(false, 0, 1);
      }
      Check.due("turn of " + heads, x.perform(), 0);
      Check.due("count(1)", x.count(1), heads);
      Check.due("count(4)", x.count(4), heads);
      Check.due("turn of " + heads, x.perform(), heads);
      Check.due("count(1)", x.count(1), 2 * heads);
      Check.due("one act each", x.undo(), 3);
      Check.due("count(1)", x.count(1), heads);
    }
  }

  /** "NONE if stop or clear is about no part": none at all, none that waits. */
  private static void promise12StopOfNone() {
    Told.dueRefused("stop of nothing", Told.written(Told::fresh, "stop"), LeakCarousel::perform, LeakCarousel.NONE);
    Told.Made onHead = Told.written(() -> {
      LeakCarousel x = Told.withParts(4);
      x.run(4);
      return x;
    }, "stop");
    Told.dueRefused("stop while four are on heads", onHead, LeakCarousel::perform, LeakCarousel.NONE);
    Told.Made judged = Told.written(() -> {
      LeakCarousel x = new LeakCarousel();
      Runs.read(x, "v0/1;v900/1");
      x.run(6);
      return x;
    }, "stop");
    Told.dueRefused("stop while all are judged", judged, LeakCarousel::perform, LeakCarousel.NONE);
    Told.Made stopped = Told.behind(Told.written(Told::full, "stop"), LeakCarousel::perform);
    Told.dueRefused("stop once more", stopped, LeakCarousel::perform, LeakCarousel.NONE);
  }

  private static void promise12StopOfOneAndSixty() {
    Told.dueAct("stop of one", Told.written(() -> Told.withParts(1), "stop"), LeakCarousel::perform, 1);
    Told.dueAct("stop of sixty", Told.written(Told::full, "stop"), LeakCarousel::perform, 60);
    LeakCarousel x = Told.written(Told::full, "stop").make();
    x.perform();
    for (int part = 0; part < 60; part++) {
      Check.due("part(part, 3)", x.part(part, 3), Runs.REJECTED);
      Check.due("part(part, 7)", x.part(part, 7), 5);
      Check.due("part(part, 8)", x.part(part, 8), LeakCarousel.NONE);
    }
    Check.due("count(14)", x.count(14), 60);
    Check.due("count(3)", x.count(3), 0);
    Check.due("run(40)", x.run(40), 0);
    Check.due("count(4)", x.count(4), 0);
  }

  /** Only those that wait are rejected, retested ones too; the heads count none of it. */
  private static void promise12StopLeavesTheOthers() {
    LeakCarousel x = Told.withHeads(2);
    x.equip(1, 0, 2);
    Runs.read(x, "v0/1;v900/1;v50/100;v1/1;v2/2");
    x.run(7);
    Check.due("the retested one waits", x.part(2, 8), 0);
    Check.due("stop", Runs.perform(x, "stop"), 2);
    int[] states = {Runs.ACCEPTED, Runs.REJECTED, Runs.REJECTED, Runs.ON_HEAD, Runs.REJECTED};
    int[] causes = {LeakCarousel.NONE, 1, 5, LeakCarousel.NONE, 5};
    for (int part = 0; part < 5; part++) {
      Check.due("part(" + part + ", 3)", x.part(part, 3), states[part]);
      Check.due("part(" + part + ", 7)", x.part(part, 7), causes[part]);
    }
    Check.due("its test stays", x.part(2, 4), 1);
    Check.due("its retest stays", x.part(2, 5), 1);
    Check.due("its head stays", x.part(2, 6), 0);
    Check.due("head(0, 6)", x.head(0, 6), 1);
    Check.due("head(0, 3)", x.head(0, 3), 3);
    Check.due("count(1)", x.count(1), 7);
    x.run(2);
    Check.due("the one on the head is tested", x.part(3, 3), Runs.ACCEPTED);
  }

  private static void promise12ClearOfNone() {
    Told.dueRefused("clear of nothing", Told.written(Told::fresh, "clear"), LeakCarousel::perform, LeakCarousel.NONE);
    Told.Made waiting = Told.written(Told::full, "clear");
    Told.dueRefused("clear while all wait", waiting, LeakCarousel::perform, LeakCarousel.NONE);
    Told.Made cleared = Told.behind(Told.written(Told::busy, "clear"), LeakCarousel::perform);
    Told.dueRefused("clear once more", cleared, LeakCarousel::perform, LeakCarousel.NONE);
  }

  private static void promise12ClearOfOneAndEight() {
    Told.Made one = Told.written(() -> {
      LeakCarousel x = Told.withParts(1);
      x.run(1);
      return x;
    }, "clear");
    Told.dueAct("clear of one", one, LeakCarousel::perform, 1);
    LeakCarousel x = one.make();
    x.perform();
    Check.due("part(0, 8)", x.part(0, 8), 0);
    for (int heads = 2; heads <= 8; heads++) {
      int many = heads;
      Told.Made every = Told.written(() -> {
        LeakCarousel y = Told.withHeads(many);
        for (int i = 0; i < many; i++) {
          y.add(false, 1, 1);
        }
        y.run(many);
        return y;
      }, "clear");
      Told.dueAct("clear of " + heads, every, LeakCarousel::perform, heads);
      LeakCarousel y = every.make();
      y.perform();
      for (int part = 0; part < heads; part++) {
        Check.due("part(part, 8)", y.part(part, 8), part);
        Check.due("head(part, 3)", y.head(part, 3), LeakCarousel.NONE);
      }
    }
  }

  /** "they come to the front of the row, the one from the lowest head ahead of the others" */
  private static void promise12ClearComesToTheFront() {
    LeakCarousel x = Told.withHeads(3);
    x.setInterval(99);
    for (int i = 0; i < 60; i++) {
      x.add(false, 0, 1);
    }
    // the heads 0, 1 and 2 hold 6, 4 and 5
    x.run(7);
    Check.due("head(0, 3)", x.head(0, 3), 6);
    Check.due("head(1, 3)", x.head(1, 3), 4);
    Check.due("clear", Runs.perform(x, "clear"), 3);
    int[] front = {6, 4, 5};
    for (int place = 0; place < 3; place++) {
      Check.due("part(front, 8)", x.part(front[place], 8), place);
    }
    for (int part = 7; part < 60; part++) {
      Check.due("part(" + part + ", 8)", x.part(part, 8), part - 4);
    }
    Check.due("count(3)", x.count(3), 56);
    x.run(1);
    Check.due("the front is taken", x.head(1, 3), 6);
  }

  /** "takes all parts from the heads, without a test": the same head may take it again. */
  private static void promise12ClearWithoutATest() {
    LeakCarousel x = Told.withHeads(2);
    x.equip(0, 1000, 0);
    x.equip(1, 0, 2);
    x.add(false, 900, 1);
    x.run(2);
    Check.due("clear", Runs.perform(x, "clear"), 1);
    Check.due("part(0, 3)", x.part(0, 3), Runs.WAITING);
    Check.due("part(0, 4)", x.part(0, 4), 0);
    Check.due("part(0, 5)", x.part(0, 5), 0);
    Check.due("part(0, 6)", x.part(0, 6), LeakCarousel.NONE);
    Check.dueNaN("value(0)", x.value(0));
    Check.dueNumber("gauge(0, 0)", x.gauge(0, 0), 1.0);
    Check.due("head(0, 2)", x.head(0, 2), 0);
    Check.due("head(0, 4)", x.head(0, 4), 0);
    Check.due("count(1)", x.count(1), 2);
    Check.due("run(1)", x.run(1), 0);
    Check.due("head(0, 3)", x.head(0, 3), 0);
    Check.dueNumber("filled anew", x.gauge(0, 3), 500.0);
    Check.dueNaN("its old pressures are gone", x.trace(0, 1));
  }

  /** "Does the command of the text, which stays." */
  private static void promise12TextStays() {
    String[] words = {"step", "turn", "stop", "clear"};
    for (String word : words) {
      LeakCarousel x = Told.written(Told::busy, word).make();
      x.perform();
      Check.due("count(16) behind " + word, x.count(16), word.length());
      Check.due("readParts() behind " + word, x.readParts(), -100);
      x.build(3);
      x.add(false, 1, 1);
      x.run(3);
      x.add(false, 1, 1);
      // a test ends in a step and in a turn; one part waits, and one is on a head
      Check.due(word + " again", x.perform(), 1);
    }
  }
}
