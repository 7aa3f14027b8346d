/** The text: its words in the terms, and promises 13, 14, 15 and 16. */
final class TextSentences {
  private static final int NO_FAULT = -5;

  private TextSentences() {
  }

  static void tests(Sentences s) {
    s.section("Terms");
    text(s);
    acts(s);
    ranges(s);
    digits(s);
    faults(s);
    numbersOutOfRange(s);
    s.section("Promise 13");
    append(s);
    s.section("Promise 14");
    clearText(s);
    s.section("Promise 15");
    faultPosition(s);
    s.section("Promise 16");
    run(s);
    runAndHistory(s);
  }

  private static void faultIs(Check c, String text, int due) {
    c.due("fault position of \"" + text + "\"", Given.faultOf(text), due);
  }

  private static void text(Sentences s) {
    s.test("The text. The text has at most 80 bytes.", c -> {
      Watched x = new Watched();
      for (int length = 1; length <= 80; length++) {
        c.due("one byte more", x.append('~'), length);
      }
      c.due("byte 81", x.append('~'), -4);
      c.due("its length", x.total(12), 80);
    });
    s.test("It tells acts, perhaps none, ", c -> {
      Watched x = Given.oneSite();
      c.due("no text has no fault", x.faultPosition(), NO_FAULT);
      c.due("no act", x.run(), 0);
      c.due("one act", Given.runOf(x, "t1;"), 1);
      c.due("26 acts", Given.runOf(x, "r0;".repeat(26)), 26);
      String longest = "s0n0f0;".repeat(11) + "u0;";
      c.due("length of 12 acts", longest.length(), 80);
      c.due("12 acts in 80 bytes", Given.runOf(x, longest), 12);
      c.due("letters", x.total(7), 11);
    });
    s.test("each with a semicolon at its end: ", c -> {
      for (String act : new String[] {"s0n0f0", "r0", "u0", "t1"}) {
        faultIs(c, act, act.length());
        faultIs(c, act + ";", NO_FAULT);
        faultIs(c, act + ";;", act.length() + 1);
        faultIs(c, act + ",", act.length());
        faultIs(c, act + act + ";", act.length());
        faultIs(c, act + ";" + act, 2 * act.length() + 1);
      }
      faultIs(c, ";", 0);
    });
  }

  private static void acts(Sentences s) {
    s.test("s, a router, n, a name, f, a flow (sending);", c -> {
      faultIs(c, "s3n255f99;", NO_FAULT);
      faultIs(c, "s0f0n0;", 2);
      faultIs(c, "s0n0;", 4);
      faultIs(c, "s0;", 2);
      faultIs(c, "sn0f0;", 1);
      faultIs(c, "s0nf0;", 3);
      faultIs(c, "s0n0f;", 5);
      Watched x = Given.fourRouters();
      Given.siteUp(x, 64, 64, 1);
      x.setSlot(0, 1, 2, 0, 2);
      c.due("two letters", Given.runOf(x, "s3n64f3;s3n255f0;"), 2);
      c.due("letters of router 3", x.router(3, 3), 2);
      c.due("one by a proxy", x.router(3, 4), 1);
      c.due("its map", x.map(3, 0, 0), 0);
      c.due("letters of router 0", x.router(0, 3), 0);
      x.setSlot(0, 1, 9, 0, 2);
      Given.runOf(x, "s3n64f0;");
      c.due("flow 0 has a place that is there", x.router(3, 5), 0);
      Given.runOf(x, "s3n64f0;s3n64f1;");
      c.due("flow 1 of the new map", x.router(3, 5), 0);
      x.setSlot(0, 1, 10, 0, 2);
      Given.runOf(x, "s3n64f98;");
      c.due("flow 98 has a place that is no more", x.router(3, 5), 1);
    });
    s.test("r, a site (registering it);", c -> {
      Watched x = Given.eightSites();
      x.pass(5);
      for (int site = 0; site <= 7; site++) {
        c.due("site " + site, Given.runOf(x, "r" + site + ";"), 1);
        c.due("end of " + site, x.site(site, 4), 6 + site);
        c.due("the next one", x.site(site + 1, 4), site == 7 ? -1 : 0);
      }
    });
    s.test("u, a site (ending its registration);", c -> {
      Watched x = Given.eightSites();
      x.pass(5);
      for (int site = 0; site <= 7; site++) {
        x.register(site);
      }
      for (int site = 0; site <= 7; site++) {
        c.due("site " + site, Given.runOf(x, "u" + site + ";"), 1);
        c.due("end of " + site, x.site(site, 4), 5);
        c.due("the next one", x.site(site + 1, 4), site == 7 ? -1 : 7 + site);
      }
    });
    s.test("t, hours (they pass).", c -> {
      Watched x = new Watched();
      c.due("1 hour", Given.runOf(x, "t1;"), 1);
      c.due("the hour", x.total(0), 1);
      c.due("99 hours", Given.runOf(x, "t99;"), 1);
      c.due("the hour then", x.total(0), 100);
    });
  }

  private static void ranges(Sentences s) {
    s.test("A router is from 0 to 3, ", c -> rangeIs(c, "s", "n0f0;", 0, 3));
    s.test("a name from 0 to 255, ", c -> rangeIs(c, "s0n", "f0;", 0, 255));
    s.test("a flow from 0 to 99, ", c -> rangeIs(c, "s0n0f", ";", 0, 99));
    s.test("a site from 0 to 7, ", c -> {
      rangeIs(c, "r", ";", 0, 7);
      rangeIs(c, "u", ";", 0, 7);
    });
    s.test("hours from 1 to 99.", c -> rangeIs(c, "t", ";", 1, 99));
  }

  /** All numbers of up to three digits, and some of four, of which three are the number. */
  private static void rangeIs(Check c, String before, String after, int lowest, int highest) {
    for (int number = 0; number <= 999; number++) {
      boolean isIn = number >= lowest && number <= highest;
      faultIs(c, before + number + after, isIn ? NO_FAULT : before.length());
      faultIs(c, "r0;" + before + number, isIn ? 3 + (before + number).length() : 3 + before.length());
    }
    for (int number = 100; number <= 999; number++) {
      boolean isIn = number >= lowest && number <= highest;
      faultIs(c, before + number + "0" + after, isIn ? before.length() + 3 : before.length());
    }
  }

  private static void digits(Sentences s) {
    s.test("Each number has 1 to 3 digits, ", c -> {
      for (String act : new String[] {"s#n0f0;", "s0n#f0;", "s0n0f#;", "r#;", "u#;", "t#;"}) {
        int at = act.indexOf('#');
        faultIs(c, act.replace("#", ""), at);
        faultIs(c, act.substring(0, at), at);
        faultIs(c, act.replace("#", "1"), NO_FAULT);
        faultIs(c, act.replace("#", "/"), at);
        faultIs(c, act.replace("#", ":"), at);
        faultIs(c, act.replace("#", "-1"), at);
        faultIs(c, act.replace("#", "+1"), at);
      }
      faultIs(c, "s0n9f0;", NO_FAULT);
      faultIs(c, "s0n10f0;", NO_FAULT);
      faultIs(c, "s0n100f0;", NO_FAULT);
      faultIs(c, "s0n1000f0;", 6);
      faultIs(c, "t10;", NO_FAULT);
      faultIs(c, "s0n0f10;", NO_FAULT);
    });
    s.test("the first one not 0 unless it is the only one.", c -> {
      for (String act : new String[] {"s#n0f0;", "s0n#f0;", "s0n0f#;", "r#;", "u#;"}) {
        int at = act.indexOf('#');
        faultIs(c, act.replace("#", "0"), NO_FAULT);
        for (String zeros : new String[] {"00", "01", "02", "000", "001", "010", "0000", "09"}) {
          faultIs(c, act.replace("#", zeros), at + 1);
        }
      }
      faultIs(c, "t01;", 1);
      faultIs(c, "t10;", NO_FAULT);
    });
    s.test("There are no blanks.", c -> {
      String text = "s1n20f3;r7;u0;t45;";
      for (int at = 0; at <= text.length(); at++) {
        faultIs(c, text.substring(0, at) + " " + text.substring(at), at);
      }
      faultIs(c, " ", 0);
    });
  }

  private static void faults(Sentences s) {
    s.test("The fault position is the index, counted from 0, of the first byte with which the text does "
        + "not follow this form, ", c -> {
          String text = "s1n20f3;r7;u0;t45;";
          for (int at = 0; at < text.length(); at++) {
            faultIs(c, text.substring(0, at) + "~" + text.substring(at + 1), at);
            faultIs(c, text.substring(0, at) + "x" + text.substring(at + 1) + "x", at);
          }
          for (int b = 32; b <= 126; b++) {
            char sign = (char) b;
            boolean isKind = "srut".indexOf(b) >= 0;
            faultIs(c, "" + sign, isKind ? 1 : 0);
            faultIs(c, "t1;" + sign, isKind ? 4 : 3);
            faultIs(c, "r" + sign + ";", b >= '0' && b <= '7' ? NO_FAULT : 1);
            faultIs(c, "u0" + sign, b == ';' ? NO_FAULT : 2);
            faultIs(c, "s0" + sign + "0f0;", b == 'n' ? NO_FAULT : 2);
            faultIs(c, "s0n0" + sign + "0;", b == 'f' ? NO_FAULT : 4);
            faultIs(c, "s0n0f0" + sign, b == ';' ? NO_FAULT : 6);
          }
          faultIs(c, "~".repeat(80), 0);
          faultIs(c, "r0;".repeat(26) + "r;", 79);
        });
    s.test("or its length if it ends too early;", c -> {
      String text = "s1n200f39;r7;u0;t45;";
      for (int length = 0; length <= text.length(); length++) {
        boolean isWhole = length == 0 || text.charAt(length - 1) == ';';
        faultIs(c, text.substring(0, length), isWhole ? NO_FAULT : length);
      }
      faultIs(c, "r0;".repeat(26) + "s", 79);
      faultIs(c, "r0;".repeat(26) + "t1", 80);
    });
  }

  private static void numbersOutOfRange(Sentences s) {
    s.test("a number, that is, the digits that stand there, but three at most ", c -> {
      faultIs(c, "s0n2550f0;", 6);
      faultIs(c, "s0n2559", 6);
      faultIs(c, "s0n2560f0;", 3);
      faultIs(c, "s0n10000", 6);
      faultIs(c, "t1000;", 1);
      faultIs(c, "t0999;", 1);
      faultIs(c, "t4294967297;", 1);
      faultIs(c, "r4294967296;", 1);
      faultIs(c, "s0n4294967296f0;", 3);
      faultIs(c, "s0n2554294967296f0;", 6);
      faultIs(c, "s0n" + "1".repeat(77), 6);
      faultIs(c, "t" + "9".repeat(79), 1);
    });
    s.test("(0 alone, if the first one is 0), ", c -> {
      faultIs(c, "r08;", 2);
      faultIs(c, "s04n0f0;", 2);
      faultIs(c, "s0n0256f0;", 4);
      faultIs(c, "s0n0f0100;", 6);
      faultIs(c, "t00;", 1);
      faultIs(c, "t05;", 1);
      faultIs(c, "u00", 2);
    });
    s.test("that is out of its range is a fault at its first digit, whatever follows it.", c -> {
      for (String after : new String[] {"", ";", "n0f0;", "f0;", "x", " ", "0", "99"}) {
        faultIs(c, "s4" + after, 1);
        faultIs(c, "s0n256" + after, 3);
        faultIs(c, "s0n0f100" + after, 5);
        faultIs(c, "r8" + after, 1);
        faultIs(c, "u9" + after, 1);
        faultIs(c, "t0" + after, 1);
        faultIs(c, "t100" + after, 1);
        faultIs(c, "r0;t100" + after, 4);
      }
      faultIs(c, "r0;".repeat(26) + "t0", 79);
    });
  }

  private static void append(Sentences s) {
    s.test("int append(int b): Appends a byte to the text.", c -> {
      Watched x = new Watched();
      x.append('t');
      x.append('2');
      x.append(';');
      c.due("no fault", x.faultPosition(), NO_FAULT);
      c.due("one act", x.run(), 1);
      c.due("the hour", x.total(0), 2);
      x.append('t');
      c.due("it ends too early", x.faultPosition(), 4);
      c.due("it is not recorded", x.total(11), 1);
    });
    s.test("b: 32 to 126", c -> {
      for (int b = 32; b <= 126; b++) {
        c.due("append(" + b + ")", new Watched().append(b), 1);
      }
    });
    s.test("Returns the length of the text then;", c -> {
      Watched x = new Watched();
      for (int length = 1; length <= 80; length++) {
        c.due("one more", x.append(';'), length);
      }
      x.clearText();
      c.due("after clearText()", x.append(';'), 1);
    });
    s.test("BAD_VALUE if b is out of range;", c -> {
      Watched x = new Watched();
      for (int b = 0; b <= 31; b++) {
        c.due("append(" + b + ")", x.append(b), -2);
      }
      for (int b = 127; b <= 300; b++) {
        c.due("append(" + b + ")", x.append(b), -2);
      }
      for (int b : Given.outside(32, 126)) {
        c.due("append(" + b + ")", x.append(b), -2);
      }
      c.due("length", x.total(12), 0);
    });
    s.test("FULL if the text has 80 bytes.", c -> {
      Watched x = Given.withText("t".repeat(79));
      c.due("79 bytes", x.append('t'), 80);
      c.due("80 bytes", x.append('t'), -4);
      c.due("80 bytes, the least byte", x.append(32), -4);
      c.due("80 bytes, the most", x.append(126), -4);
      c.due("length", x.total(12), 80);
    });
  }

  private static void clearText(Sentences s) {
    s.test("int clearText(): Empties the text.", c -> {
      Watched x = Given.withText("t1;x");
      c.due("a fault", x.faultPosition(), 3);
      x.clearText();
      c.due("length", x.total(12), 0);
      c.due("no fault", x.faultPosition(), NO_FAULT);
      c.due("no act", x.run(), 0);
      x.append('t');
      c.due("nothing of the old text", x.faultPosition(), 1);
    });
    s.test("Returns the length that it had.", c -> {
      for (int length = 0; length <= 80; length++) {
        Watched x = Given.withText("t".repeat(length));
        c.due("length", x.clearText(), length);
        c.due("again", x.clearText(), 0);
        c.due("it is not recorded", x.total(11), 0);
      }
    });
  }

  private static void faultPosition(Sentences s) {
    s.test("int faultPosition(): Returns the fault position of the text. Returns the fault position;",
        c -> {
          faultIs(c, "x", 0);
          faultIs(c, "t", 1);
          faultIs(c, "t1;".repeat(26) + "tt", 79);
          faultIs(c, "t1;".repeat(26) + "t1", 80);
          Watched x = Given.withText("t1;t");
          c.due("asked once", x.faultPosition(), 4);
          c.due("asked again", x.faultPosition(), 4);
          x.append('0');
          c.due("after one more byte", x.faultPosition(), 4);
          x.append('x');
          c.due("after another one", x.faultPosition(), 4);
        });
    s.test("NONE if it has no fault.", c -> {
      faultIs(c, "", NO_FAULT);
      faultIs(c, "t1;", NO_FAULT);
      faultIs(c, "s3n255f99;".repeat(8), NO_FAULT);
      faultIs(c, "r7;u7;t99;s0n0f0;", NO_FAULT);
      Watched x = Given.withText("s3n0f0;u7;t");
      c.due("an act that is not at its end", x.faultPosition(), 11);
      x.append('1');
      c.due("nor then", x.faultPosition(), 12);
      x.append(';');
      c.due("without routers and sites", x.faultPosition(), NO_FAULT);
    });
  }

  private static void run(Sentences s) {
    s.test("int run(): Carries out the acts of the text in their order, each as by send, register, "
        + "unregister or pass ", c -> {
          Watched x = Given.world();
          Watched y = Given.world();
          c.due("acts", Given.runOf(x, "u1;s0n70f0;r1;t12;s0n70f5;s1n70f98;t99;r0;"), 8);
          y.unregister(1);
          y.send(0, 70, 0);
          y.register(1);
          y.pass(12);
          y.send(0, 70, 5);
          y.send(1, 70, 98);
          y.pass(99);
          y.register(0);
          c.dueText("the state", Looks.ofState(x), Looks.ofState(y));
        });
    s.test("(but not recorded by itself), ", c -> {
      Watched x = new Watched();
      x.addSite(0, 1, 1);
      c.due("four acts", Given.runOf(x, "t1;r0;u0;t2;"), 4);
      c.due("states", x.total(11), 2);
      x.undo();
      c.due("the hour ahead of all of them", x.total(0), 0);
      c.due("states then", x.total(11), 1);
    });
    s.test("until one of them reports an error;", c -> {
      String[] wrong = {"s1n0f0;", "s3n0f0;", "r1;", "r7;", "u0;", "u1;", "u7;"};
      for (String act : wrong) {
        Watched x = new Watched();
        x.addSite(0, 1, 1);
        x.addRouter();
        c.due("t1;" + act, Given.runOf(x, "t1;" + act + "t2;"), 1);
        c.due("the hour", x.total(0), 1);
        c.due(act, Given.runOf(x, act + "t2;"), 0);
        c.due("the hour as before", x.total(0), 1);
      }
      Watched y = new Watched();
      Given.untilHour(y, 9998);
      c.due("beyond the last hour", Given.runOf(y, "t2;t1;"), 0);
      c.due("the hour", y.total(0), 9998);
      c.due("to the last hour", Given.runOf(y, "t1;t1;"), 1);
      c.due("the last hour", y.total(0), 9999);
    });
    s.test("the text stays.", c -> {
      Watched x = Given.withText("t3;u0;");
      c.due("an act", x.run(), 1);
      c.due("length", x.total(12), 6);
      c.due("the same again", x.run(), 1);
      c.due("the hour", x.total(0), 6);
      x.undo();
      c.due("length after undo()", x.total(12), 6);
      c.due("clearText()", x.clearText(), 6);
    });
  }

  private static void runAndHistory(Sentences s) {
    s.test("Recorded, as one call.", c -> {
      Watched x = Given.withOneState(Given.world());
      String before = Looks.ofState(x);
      c.due("acts", Given.runOf(x, "t1;r0;s0n70f0;t1;u0;"), 5);
      c.due("states", x.total(11), 2);
      c.due("undo()", x.undo(), 1);
      c.dueText("the state ahead", Looks.ofState(x), before);
      c.due("no act", Given.runOf(x, ""), 0);
      c.due("states after no act", x.total(11), 2);
      c.due("an error at once", Given.runOf(x, "r7;"), 0);
      c.due("states after that", x.total(11), 3);
      c.due("a fault", Given.runOf(x, "r7"), -3);
      c.due("states after a fault", x.total(11), 3);
    });
    s.test("Returns the number of acts that were carried out without an error;", c -> {
      Watched x = Given.oneSite();
      for (int acts = 0; acts <= 26; acts++) {
        Watched y = x.again();
        c.due(acts + " acts", Given.runOf(y, "t1;".repeat(acts)), acts);
        c.due("the hour", y.total(0), acts);
      }
      c.due("a letter to a proxy is one", Given.runOf(x, "u0;s0n255f0;"), 2);
      x.setSlot(0, 0, 0, 0, 1);
      c.due("a letter to place 0 is one", Given.runOf(x, "r0;s0n255f0;"), 2);
      c.due("an error and what is behind it are none", Given.runOf(x, "t1;u7;t1;t1;"), 1);
    });
    s.test("NOT_POSSIBLE if the text has a fault.", c -> {
      for (String text : new String[] {"x", "t", "t1", "t1;x", "t1;t0;", "t1;t1;t", "t1; ", "r8;"}) {
        Watched x = Given.withText(text);
        c.due("run() of \"" + text + "\"", x.run(), -3);
        c.due("the hour", x.total(0), 0);
        c.due("states", x.total(11), 0);
      }
    });
  }
}
