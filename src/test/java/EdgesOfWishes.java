/** Promises 16 to 20: wishes. */
final class EdgesOfWishes extends Edges {
    private static final String[] VOCABULARY = {
        "wish", "or", "and", "not", "node", "flow", "pace", "ring", "feed", "x", "nodes", "wis", "0", "4", "5", "9", "10", "999", "1000",
        "(", ")", "+", "<", "=", ">", ";", "-", "W", "" + (char) 0, "" + (char) 255};
    private static final String ONES = "not ( 0 4 5 9 10 999 node flow pace ring feed", VALUES = "0 4 5 9 10 999 node flow pace ring feed";

    // ---- 16 feed

    @Promise(n = 16, says = {"n bytes (1 to 8)", "BAD"})
    void feedOfTooFewOrTooMany() {
        for (int bad : outside(1, 8)) refused("n " + bad, BAD, x -> x.feed(0x20202020L, bad));
    }

    @Promise(n = 16, says = "n bytes (1 to 8) come to THE TAPE, the lowest of eight first: how many it has.")
    void feedOf1And8() {
        SizedParts x = new SizedParts();
        is("the lowest alone", x.feed(0x4142434445464700L | 'w', 1), 1);
        is("eight", x.feed(0x3b313d3120687369L, 8), 9); // "ish 1=1;"
        is("read", x.read(), 1);
    }

    @Promise(n = 16, says = "n bytes (1 to 8) come to THE TAPE, the lowest of eight first")
    void feedOfTheHighestByte() {
        SizedParts x = new SizedParts();
        is("feed", x.feed(0xff20202020202020L, 8), 8);
        is("the eighth is 255", x.read(), -107);
        is("feed", x.feed(0x3b20202020202020L, 8), 8);
        is("the eighth is a ;", x.read(), -107);
        is("feed", x.feed(0x2020202020202020L, 8), 8);
        is("the eighth is a blank", x.read(), 0);
    }

    @Promise(n = 16, says = {"FULL: more than 220.", "THE TAPE takes bytes, 220 at most"})
    void feedOfMoreThan220() {
        for (int held = 213; held <= 220; held++) {
            int h = held;
            for (int n = 1; n <= 8; n++) {
                int more = n;
                if (h + n > 220) refused(n + " to " + h, FULL, () -> withTape(h), x -> x.feed(0x20202020, more));
                else is(n + " to " + h, withTape(h).feed(0, n), h + n);
            }
        }
    }

    @Promise(n = 16, says = {"of several the first named", "BAD; FULL: more than 220"})
    void feedRefusesBadAheadOfFull() {
        for (int bad : outside(1, 8)) refused("n " + bad, BAD, () -> withTape(220), x -> x.feed(0, bad));
    }

    private static SizedParts withTape(int bytes) {
        SizedParts x = new SizedParts();
        type(x, " ".repeat(bytes));
        return x;
    }

    // ---- 17 read

    @Promise(n = 17, says = "THE TAPE is a TEXT: how many WISHES there are")
    void emptyTapeIsText() {
        SizedParts x = new SizedParts();
        is("nothing", x.read(), 0);
        wishes(x, 1, "wish 1=1;");
        is("nothing", x.read(), 0);
        is("no wish any more", x.many(2), 0);
        wishes(x, 0, "   ");
    }

    @Promise(n = 17, says = {"-100 less its FAULT", "such a call changes nothing (but that THE TAPE is used up by read())"})
    void faultChangesTheTapeAlone() {
        SizedParts x = rich();
        x.read();
        String before = Told.by(x);
        x = rich();
        x.read();
        wishes(x, -100, ";");
        is("the tape", x.many(6), 0);
        is("all else is as it was", Told.by(x).equals(before) ? 1 : 0, 1);
    }

    @Promise(n = 17, says = "read() uses it up")
    void readUsesTheTapeUp() {
        SizedParts x = new SizedParts();
        wishes(x, 1, "wish 1=1;");
        is("bytes", x.many(6), 0);
        is("the next byte is the first", x.feed(' ', 1), 1);
        x.read();
        wishes(x, -104, "wish");
        is("bytes", x.many(6), 0);
        type(x, " ".repeat(220));
        x.read();
        is("as much as ever", x.feed(0, 8), 8);
    }

    @Promise(n = 17, says = {"8 WISHES at most", "the ninth WISH: its WORD"})
    void ninthWish() {
        isText("wish 1=1;".repeat(8), 8);
        isText("wish 1=1;".repeat(8) + "  ", 8);
        fault("wish 1=1;".repeat(8) + "  wish 1=1;", 74);
        fault("wish 1=1;".repeat(9), 72);
        fault("wish 1=1;".repeat(8) + "wish", 72);
    }

    @Promise(n = 17, says = "they take the place of all there were")
    void wishesTakeThePlaceOfAll() {
        SizedParts x = new SizedParts();
        wishes(x, 3, "wish 1=1;wish 1=2;wish 1=2;");
        is("missed", x.missed(), 6);
        wishes(x, 2, "wish 1=2;wish 1=1;");
        is("wishes", x.many(2), 2);
        is("missed", x.missed(), 1);
        is("the third is none", x.worst(2), BAD);
    }

    @Promise(n = 17, says = "NUMBERS rows of digits (3 at most; a longer one is none)")
    void numberOfFourDigits() {
        isText("wish 999=000;", 1);
        fault("wish 1000=1;", 5);
        fault("wish 0000=1;", 5);
        fault("wish 1=0001;", 7);
        fault("wish 1=1+12345678901234567890;", 9);
        fault("wish node 0002=1;", 10);
        fault("wish 1=1 1000;", 9);
    }

    @Promise(n = 17, says = {"N: 0 to 999, K: 0 to 4, P: 0 to 9", "or that is not as told"})
    void numbersAtTheirEnds() {
        isText("wish 0<999;", 1);
        for (int k = 0; k <= 9; k++) {
            if (k <= 4) isText("wish node " + k + "=1;", 1);
            else fault("wish node " + k + "=1;", 10);
            isText("wish flow " + k + "=1;", 1);
        }
        for (int bad : new int[] {10, 99, 100, 999}) {
            fault("wish node " + bad + "=1;", 10);
            fault("wish flow " + bad + "=1;", 10);
        }
        isText("wish node 004=flow 009;", 1);
        fault("wish node 005=1;", 10);
        fault("wish flow 010=1;", 10);
    }

    @Promise(n = 17, says = "WORDS are rows of letters a to z, NUMBERS rows of digits (3 at most; a longer one is none), as long as they go")
    void wordsAndNumbersGoAsLongAsTheyCan() {
        fault("wishnode 2=1;", 0);
        fault("wishes 1=1;", 0);
        fault("wish nodes 2=1;", 5);
        fault("wish 1=1 andnot 1=1;", 9);
        fault("wish node 23=1;", 10);
        fault("wis h 1=1;", 0);
        fault("wish 1=1 an d 1=1;", 9);
        isText("wish1=1and2=2or3=3;", 1);
        isText("wish node2=flow3+pace;", 1);
    }

    @Promise(n = 17, says = "WORDS are rows of letters a to z")
    void lettersAreAToZ() {
        for (char c : new char[] {'`', '{', 'A', 'Z', '@', '[', (char) 223, (char) 228}) {
            fault(c + "wish 1=1;", 0);
            fault("wish" + c + "1=1;", 4);
            fault("wish pace" + c + "=1;", 9);
        }
        fault("Wish 1=1;", 0);
        fault("wisH 1=1;", 0);
    }

    @Promise(n = 17, says = {"VALUE: N | node K | flow P | pace | ring | feed", "with which no TEXT goes on, or that is not as told"})
    void namesOfTheGrammarAreNoWordsOfIt() {
        fault("wish N=1;", 5);
        fault("wish node K=1;", 10);
        fault("wish flow P=1;", 10);
        fault("wish 1=node K;", 12);
        fault("wish cond;", 5);
        fault("wish COND;", 5);
        fault("end", 0);
        fault("wish 1=1;end", 9);
        fault("wish number=1;", 5);
    }

    @Promise(n = 17, says = "NUMBERS rows of digits")
    void digitsAre0To9() {
        isText("wish 123+456+789+0=9;", 1);
        for (char c : new char[] {'/', ':', (char) 178}) {
            fault("wish " + c + "=1;", 5);
            fault("wish 1" + c + "=1;", 6);
        }
    }

    @Promise(n = 17, says = "blanks (32) between")
    void blankIs32Alone() {
        isText("   wish   (   1   +   node   2   =   1   )   ;   ", 1);
        isText("wish(1+node 2=1);", 1);
        fault("wish 1 2=1;", 7);
        for (char c : new char[] {0, 9, 10, 13, 31, 33, 160, 255}) {
            fault(c + "wish 1=1;", 0);
            fault("wish" + c + "1=1;", 4);
            fault("wish 1=1;" + c, 9);
        }
    }

    @Promise(n = 17, says = {"At most 4 \"(\" are open within one another.", "the fifth \"(\""})
    void fifthBracket() {
        isText("wish ((((1=1))));", 1);
        fault("wish (((((1=1)))));", 9);
        fault("wish (((((((((1=1)))))))));", 9);
        fault("wish not ( not ( ( 1=1 and (2=2 or ( 3=3)))));", 35);
        fault("wish (((( (", 10);
    }

    @Promise(n = 17, says = "At most 4 \"(\" are open within one another.")
    void bracketsThatAreClosedDontCount() {
        isText("wish (1=1)and(1=1)and(1=1)and(1=1)and(1=1)and(1=1);", 1);
        isText("wish ((((1=1))))and((((1=1))));wish ((((1=1))));", 2);
        isText("wish ((((1=1))and(1=1)));", 1);
        fault("wish ((((1=1)and((1=1))));", 17);
    }

    @Promise(n = 17, says = {
        "FAULT: the place (from 0) of the first byte of the first WORD, NUMBER or other byte with which no TEXT goes on",
        "ONE: { not } ( \"(\" COND \")\" | SUM SIGN SUM )"})
    void firstThingWithWhichNoTextGoesOn() {
        goesOn("", "wish");
        goesOn("wish", ONES);
        goesOn("wish not", ONES);
        goesOn("wish (", ONES);
        goesOn("wish ( not not", ONES);
        goesOn("wish 1", "+ < = >");
        goesOn("wish pace", "+ < = >");
        goesOn("wish node", "0 4");
        goesOn("wish flow", "0 4 5 9");
        goesOn("wish node 2", "+ < = >");
        goesOn("wish 1 +", VALUES);
        goesOn("wish 1 <", VALUES);
        goesOn("wish 1 = 1 +", VALUES);
        goesOn("wish 1 > 1", "+ and or ;");
        goesOn("wish ( 1 = 1", "+ and or )");
        goesOn("wish ( 1 = 1 )", "and or ;");
        goesOn("wish ( ( 1 = 1 )", "and or )");
        goesOn("wish 1 = 1 and", ONES);
        goesOn("wish 1 = 1 or", ONES);
        goesOn("wish 1 = 1 ;", "wish");
    }

    /** Behind a beginning, each of the vocabulary is the FAULT, but for those that may go on. */
    private void goesOn(String beginning, String may) {
        for (String next : VOCABULARY) {
            boolean fits = false;
            for (String m : may.split(" ")) fits |= m.equals(next);
            String text = beginning + "  " + next;
            int place = beginning.length() + 2;
            boolean whole = next.equals(";");
            if (!fits) fault(text + " 1", place);
            else if (!whole) fault(text, text.length());
            else isText(text, 1);
        }
    }

    @Promise(n = 17, says = "or the end (how many bytes there are), if more must come")
    void endIfMoreMustCome() {
        String[] words = "wish not ( 1 + node 2 > flow 3 and pace = 4 or not ( 1 < 2 ) ) and ring = 1 ;".split(" ");
        StringBuilder text = new StringBuilder();
        for (int i = 0; i < words.length; i++) {
            if (i > 0) fault(text.toString(), text.length());
            text.append(i > 0 ? " " : "").append(words[i]);
            if (i < words.length - 1) fault(text.toString() + "   ", text.length() + 3);
        }
        isText(text.toString(), 1);
        fault(text + " wish", text.length() + 5);
    }

    @Promise(n = 17, says = "-100 less its FAULT")
    void faultAtTheFirstPlaceAndAtTheEndOfAFullTape() {
        fault(";", 0);
        fault(" ".repeat(219) + ";", 219);
        fault(" ".repeat(216) + "wish", 220);
        isText(" ".repeat(211) + "wish 1=1;", 1);
        isText("wish 1" + "+1".repeat(105) + "=1;", 1);
        isText("wish1" + "+1".repeat(106) + "=1;", 1);
        fault("wish1" + "+1".repeat(107) + "=", 220);
        fault(";".repeat(220), 0);
        fault("wish" + "(".repeat(216), 8);
        fault("1".repeat(220), 0);
        fault("w".repeat(220), 0);
    }

    // ---- 18 missed

    @Promise(n = 18, says = {"WISHES that are MISSED, as bits.", "A WISH is MET, if its COND holds in all CORNERS; else it is MISSED"})
    void missedInOneCornerAlone() {
        SizedParts x = withNineFlows();
        for (int corner = 0; corner <= 8; corner++) {
            wishes(x, 2, "wish feed=10;wish not flow 0=" + NINE_FLOWS[corner] + ";");
            is("missed in " + corner, x.missed(), 2);
        }
        wishes(x, 1, "wish flow 0<149 and flow 0>39;");
        is("met in all", x.missed(), 0);
    }

    @Promise(n = 18, says = "WISHES that are MISSED, as bits.")
    void missedWithoutWishesAndWithEight() {
        SizedParts x = new SizedParts();
        is("no wish", x.missed(), 0);
        wishes(x, 8, "wish 1=2;".repeat(8));
        is("eight", x.missed(), 255);
        wishes(x, 8, "wish 1=1;".repeat(7) + "wish 1=2;");
        is("the eighth", x.missed(), 128);
    }

    @Promise(n = 18, says = "flow P: FLOW of PART P in it (0: there is none such)")
    void flowOfNoPartIs0() {
        SizedParts x = withSources(7);
        wishes(x, 2, "wish flow 0=7;wish flow 1=0 and flow 9=0;");
        is("missed", x.missed(), 0);
        x.drop();
        is("dropped", x.missed(), 1);
        wishes(x, 1, "wish flow 0=0;");
        is("dropped", x.missed(), 0);
    }

    @Promise(n = 18, says = {"node K: LEVEL in THE END from THE START on", "pace, ring: PACE, RING of it", "feed: LEVEL of THE FEED"})
    void valuesOfTheEnd() {
        SizedParts x = new SizedParts();
        x.part(SOURCE, 12, 4, 0, 0);
        x.start(state(3, 5, 6));
        wishes(x, 2, "wish node 0=0 and node 1=10 and node 2=20 and node 3=5 and node 4=6;wish pace=17 and ring=1 and feed=10;");
        is("missed", x.missed(), 0);
    }

    @Promise(n = 18, says = "SIGN: < | = | >")
    void signsAtTheirEdges() {
        SizedParts x = new SizedParts();
        wishes(x, 6, "wish 1<1;wish 1<2;wish 1>1;wish 2>1;wish 1=1;wish 1=2;");
        is("missed", x.missed(), 0b100101);
        wishes(x, 3, "wish 999+999=999;wish 999+999>999+998;wish 0<0+0;");
        is("missed", x.missed(), 0b101);
    }

    @Promise(n = 18, says = {"COND: ALL { or ALL } ALL: ONE { and ONE }", "ONE: { not }"})
    void notAheadOfAndAheadOfOr() {
        SizedParts x = new SizedParts();
        wishes(x, 3, "wish 1=1 or 1=1 and 1=2;wish not 1=2 and 1=2;wish not 1=1 or 1=1;");
        is("missed", x.missed(), 0b010);
        wishes(x, 3, "wish (1=1 or 1=1)and 1=2;wish not(1=2 and 1=2);wish not(1=1 or 1=1);");
        is("missed", x.missed(), 0b101);
        wishes(x, 3, "wish not not 1=1;wish not not not 1=1;wish 1=2 or 1=2 or 1=1;");
        is("missed", x.missed(), 0b010);
        wishes(x, 3, "wish 1=2 and(1=1);wish 1=2 and(1=1 or 1=1);wish 1=1 or(1=1 and 1=2);");
        is("missed", x.missed(), 0b011);
        wishes(x, 3, "wish 1=1 or 1=2 and(1=2 or not(1=1 and(1=2)));wish 1=1 and(1=1 and(1=1 and(1=1 and(1=1))));wish not(1=1)or 1=2;");
        is("missed", x.missed(), 0b100);
    }

    // ---- 19 worst

    @Promise(n = 19, says = "BAD: there is none such")
    void worstOfNoSuchWish() {
        for (int bad : outside(0, 1)) refused("wish " + bad, BAD, x -> x.worst(bad));
        SizedParts x = new SizedParts();
        is("no wish", x.worst(0), BAD);
        wishes(x, 8, "wish 1=2;".repeat(8));
        is("the eighth", x.worst(7), 0);
        is("the ninth", x.worst(8), BAD);
    }

    @Promise(n = 19, says = "NONE: it is MET.")
    void worstOfOneThatIsMet() {
        refused("wish 1", NONE, x -> x.worst(1));
        SizedParts x = withNineFlows();
        wishes(x, 1, "wish flow 0<149;");
        is("met", x.worst(0), NONE);
    }

    @Promise(n = 19, says = {"WORST of a WISH.", "its WORST is the first CORNER in which it doesn't"})
    void worstIsTheFirstCorner() {
        SizedParts x = withNineFlows();
        for (int corner = 0; corner <= 8; corner++) {
            wishes(x, 1, "wish not flow 0=" + NINE_FLOWS[corner] + ";");
            is("alone", x.worst(0), corner);
            wishes(x, 1, "wish flow 0<" + NINE_FLOWS[corner] + ";");
            is("the first of several", x.worst(0), corner);
        }
    }

    // ---- 20 holds

    @Promise(n = 20, says = "BAD")
    void holdsInNoSuchCorner() {
        for (int bad : outside(0, 8)) refused("corner " + bad, BAD, x -> x.holds(bad));
        is("without wishes, too", new SizedParts().holds(9), BAD);
    }

    @Promise(n = 20, says = "WISHES whose COND holds in a CORNER, as bits.")
    void holdsInEachCorner() {
        SizedParts x = withNineFlows();
        for (int corner = 0; corner <= 8; corner++) {
            wishes(x, 3, "wish flow 0=" + NINE_FLOWS[corner] + ";wish 1=2;wish not flow 0=" + NINE_FLOWS[corner] + ";");
            for (int c = 0; c <= 8; c++) is("in " + c, x.holds(c), c == corner ? 1 : 4);
        }
    }

    @Promise(n = 20, says = "WISHES whose COND holds in a CORNER, as bits.")
    void holdsWithoutWishesAndWithEight() {
        SizedParts x = new SizedParts();
        is("no wish", x.holds(8), 0);
        wishes(x, 8, "wish 1=1;".repeat(8));
        is("eight", x.holds(8), 255);
        wishes(x, 8, "wish 1=2;".repeat(7) + "wish 1=1;");
        is("the eighth", x.holds(0), 128);
    }
}
