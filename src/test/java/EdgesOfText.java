/** The boundary cases of THE TAPE and of the text that it tells: promises 2 to 5. */
final class EdgesOfText {
    private final Edges e;

    private EdgesOfText(Edges e) {
        this.e = e;
    }

    static void play(Edges e) {
        EdgesOfText all = new EdgesOfText(e);
        all.feed();
        all.end();
        all.text();
        all.faultIsTold();
        all.tape();
        all.blanks();
        all.tokens();
        all.grammar();
        all.levelsOfAText();
        all.bounds();
        all.leastPlace();
        all.onePlace();
        all.faultOne();
        all.faultTwo();
        all.faultThree();
        all.faultFour();
        all.faultFive();
        all.taken();
        all.inPlaceOfAll();
    }

    private void takes(String text, int lines) {
        e.run("").type(text).then("text()=" + lines + " fault()=0 rule(9)=0");
    }

    private void faulty(String text, int place, int fault) {
        e.run("").type(text).then("text()=" + (-10 - place) + " fault()=" + fault + " rule(9)=0");
    }

    private static String blanks(int count) {
        return " ".repeat(count);
    }

    private void feed() {
        e.edge(2, "A byte (0 to 127) comes behind THE TAPE: how many it has.");
        e.run("feed(-1)=BAD rule(9)=0 feed(0)=1 feed(127)=2 feed(128)=BAD feed(MIN)=BAD feed(MAX)=BAD rule(9)=2");
        Run every = e.run("");
        for (int b = 0; b <= 127; b++) {
            every.then("feed(" + b + ")=" + (b + 1));
        }
        e.run("type:kep feed(116)=4 type:_a_1_0; text()=1");
        e.edge(2, "BAD; FULL: more than 200.");
        e.run("199*feed(32) rule(9)=199 feed(32)=200 rule(9)=200 feed(32)=FULL feed(0)=FULL feed(127)=FULL rule(9)=200");
        e.run("200*feed(32) feed(-1)=BAD feed(128)=BAD rule(9)=200");
        e.run("200*feed(32) feed(126)=FULL text()=0");
        e.run("199*feed(32) feed(126)=200 feed(32)=FULL text()=-209");
        e.run("200*feed(32) feed(32)=FULL end(199)=200 feed(32)=200 feed(32)=FULL text()=0 feed(32)=1");
    }

    private void end() {
        e.edge(3, "THE TAPE keeps its first n bytes: how many it had.");
        e.run("end(0)=0 type:abc end(3)=3 rule(9)=3 end(2)=3 end(2)=2 rule(9)=2 end(0)=2 rule(9)=0 end(0)=0");
        e.run("200*feed(32) end(200)=200 rule(9)=200 end(199)=200 rule(9)=199");
        e.run("type:kept_a_1_0;~~ end(11)=13 text()=1");
        e.run("type:kept_a_1_0;~~ end(12)=13 text()=-21");
        e.run("type:suba end(3)=4 text()=-13 fault()=2");
        e.run("type:sub0_a_0_012 end(10)=12 feed(59)=11 text()=1");
        e.edge(3, "BAD (n above that, too).");
        e.run("end(-1)=BAD end(1)=BAD type:abc end(4)=BAD end(-1)=BAD end(MIN)=BAD end(MAX)=BAD rule(9)=3 end(3)=3");
        e.run("type:abc end(2)=3 end(3)=BAD rule(9)=2");
        e.run("200*feed(32) end(201)=BAD end(-1)=BAD rule(9)=200");
    }

    private void text() {
        e.edge(4, "THE TAPE (empty then, by a FAULT, too) tells all: how many lines;");
        e.run("rule(9)=0 text()=0 rule(9)=0 fault()=0");
        e.run("type:kept_a_1_0; text()=1 rule(9)=0 rule(6)=1 text()=0 rule(6)=0");
        e.run("type:kept_a_1_0;kept_b_1_0; text()=2");
        e.run("type:kept_a_1_0;~ text()=-21 rule(9)=0 text()=0");
        e.run("200*feed(48) text()=-10 rule(9)=0 feed(32)=1");
        StringBuilder most = new StringBuilder();
        for (int n = 0; n < 22; n++) {
            most.append("sub").append(n / 6).append((char) ('a' + n % 6)).append("0 0;");
        }
        takes(most + blanks(2), 22);
        e.edge(4, "-10 less the place of its FAULT: that which was told stays.");
        faulty("~", 0, 1);
        faulty(" ~", 1, 1);
        faulty(blanks(199) + "~", 199, 1);
        String told = "told:kept_a_5_1;sub0_a_1_0;sub1_a/#_2_1; wake(1,0,9) row:a say(1,0,7,2,0) keep(1) row:c tick(2) ";
        for (String text : new String[] {"~", "kept_z_1_0;~", "sub0_z_1_0;sub5_z_0_0;sub", "kept_a_1_0;kept_a_1_0;"}) {
            Run faulty = e.run(told).then("type:" + text);
            e.is("text() of " + text + " has a fault", faulty.ask("text()") <= -10 ? 1 : 0, 1);
            e.same("behind " + text, Look.world(faulty), Look.world(e.run(told)));
            faulty.then("rule(8)=1 rule(10)=1 back(1)=0");
        }
    }

    private void faultIsTold() {
        e.edge(5, "The FAULT of the latest text(); 0.");
        e.run("fault()=0 type:~ fault()=0 text()=-10 fault()=1 fault()=1 text()=0 fault()=0");
        e.run("type:~ text()=-10 type:; text()=-10 fault()=2 type:sub6 text()=-13 fault()=3 type:sub fault()=3 text()=-13 fault()=2");
        e.run("type:kept_a_1_0; text()=1 fault()=0 type:kept_a_1_0;kept_a_2_0; text()=-31 fault()=4");
        e.run("type:~ text()=-10 feed(200)=BAD end(9)=BAD level(1) top() keep(0) back(0) tick(1) wake(0,1,1) fault()=1");
    }

    private void tape() {
        e.edge(4, "THE TAPE has 200 bytes, places from 0.");
        takes(blanks(200), 0);
        takes(blanks(189) + "sub0 a 0 0;", 1);
        faulty(blanks(190) + "sub0 a 0 0", 200, 2);
        faulty("sub" + blanks(197), 200, 2);
        faulty(blanks(197) + "sub", 200, 2);
        faulty(blanks(197) + "sua", 197, 2);
        faulty("sub" + blanks(195) + "05", 200, 2);
        faulty("sub" + blanks(194) + "005", 197, 1);
        faulty("sub0 a" + blanks(193) + "/", 200, 2);
        faulty("a".repeat(200), 0, 2);
        faulty("0".repeat(200), 0, 1);
    }

    private void blanks() {
        e.edge(4, "TOKENS, each as long as may be, any number of blanks (32) ahead of, between, behind them");
        takes("sub 0 a / + / # 2 3 ;", 1);
        takes(" sub 0 a / + / # 2 3 ; ", 1);
        takes("   sub   0   a   /   +   /   #   2   3   ;   kept   a   /   b   9   1   ;   ", 2);
        takes(blanks(80) + "sub0 a 0 0;" + blanks(100), 1);
        takes("sub" + blanks(90) + "0 a" + blanks(90) + "0 0;", 1);
        faulty("sub0 a 00;", 9, 2);
        faulty("subkept", 0, 2);
        faulty("sub0 aa 0 0;", 5, 2);
        for (int b : new int[] {0, 9, 10, 13, 31, 33, 127}) {
            faulty((char) b + "sub0 a 0 0;", 0, 1);
            faulty("sub" + (char) b + "0 a 0 0;", 3, 1);
            faulty("sub0 a 0 0;" + (char) b, 11, 1);
        }
        e.edge(4, "(one at least between two NAMES, between two NUMBERS; else none is needed):");
        takes("sub0a0 0;", 1);
        takes("sub0a/+/#0 0;sub0+0 0;sub0#0 0;", 3);
        takes("kept a/b1 0;kept b1 0;", 2);
        faulty("kepta 1 0;", 0, 2);
        faulty("sub0a00;", 7, 2);
        faulty("kept a10;", 8, 2);
        faulty("kept a123;", 6, 1);
        faulty("kept a1 23;", 8, 3);
    }

    private void tokens() {
        e.edge(4, "NAMES (a .. z), NUMBERS (1 or 2 figures), one of / + # ;");
        for (int b = 0; b <= 127; b++) {
            boolean token = b >= 'a' && b <= 'z' || b >= '0' && b <= '9' || "/+#;".indexOf(b) >= 0;
            String text = "" + (char) b;
            if (b == ' ') {
                takes(text, 0);
                takes("sub0 a 0 0;" + text, 1);
            } else {
                faulty(text, 0, token ? 2 : 1);
                faulty("sub0 a 0 0;" + text, 11, token ? 2 : 1);
            }
        }
        for (char letter = 'a'; letter <= 'z'; letter++) {
            e.run("type:kept_" + letter + "_1_0; text()=1 kept(0,4)=" + (letter - 'a' + 1));
        }
        takes("sub5 a 2 3;", 1);
        takes("sub05 a 02 03;", 1);
        faulty("sub005 a 02 03;", 3, 1);
        faulty("sub05 a 002 03;", 8, 1);
        faulty("sub05 a 02 003;", 11, 1);
        takes("kept a 9 2;kept b 09 02;kept c 99 02;", 3);
        faulty("kept a 099 2;", 7, 1);
        for (int value = 10; value <= 99; value += 11) {
            e.run("type:kept_a_" + value + "_1; text()=1 kept(0,1)=" + value);
        }
    }

    private void grammar() {
        e.edge(4, "text: { line } line: sub N F N N ; | kept F N N ;");
        takes("", 0);
        takes("sub5a/+/#2 3;", 1);
        takes("sub5a/+/#2 3;kept a/b9 2;", 2);
        cutShort("sub 5 a/+/# 2 3;", 3);
        cutShort("kept a/b/c/d 99 2;", 4);
        wrongTokens("", "ab 1 / + # ; su ubs kep septs keptt");
        wrongTokens("sub0 a 0 0;", "ab 1 / + # ; su subs kep");
        wrongTokens("sub ", "a sub / + # ;");
        wrongTokens("sub0 ", "ab sub 1 / ;");
        wrongTokens("sub0 a", "+ # ;");
        wrongTokens("sub0 a ", "b sub + # ;");
        wrongTokens("sub0 a 0 ", "b sub / + # ;");
        wrongTokens("sub0 a 0 0", "b sub / + #");
        wrongTokens("sub0 a 0 0 ", "0 1");
        wrongTokens("kept ", "ab kept 1 / + # ;");
        wrongTokens("kept a", "+ # ;");
        wrongTokens("kept a ", "b kept + # ;");
        wrongTokens("kept a 1 ", "b kept / + # ;");
        wrongTokens("kept a 1 0", "b kept / + #");
        wrongTokens("kept a 1 0 ", "0 1");
    }

    /** Every piece of a line that ends ahead of its ; has its fault at the end. */
    private void cutShort(String line, int from) {
        for (int n = from; n < line.length(); n++) {
            faulty(line.substring(0, n), n, 2);
        }
        takes(line, 1);
    }

    private void wrongTokens(String ahead, String tokens) {
        for (String token : tokens.split(" ")) {
            faulty(ahead + token, ahead.length(), 2);
            faulty(ahead + token + " 0 a 0 0;", ahead.length(), 2);
        }
    }

    private void levelsOfAText() {
        e.edge(4, "F: L { / L } L: a NAME of one letter | + (ANY) | # (REST)");
        e.run("type:sub0_a_0_0;sub0_+_0_0;sub0_#_0_0;sub0_z/+/z/#_0_0; text()=4"
            + " subscription(0,0,4)=1 subscription(0,1,4)=27 subscription(0,2,4)=28 subscription(0,3,0)=4"
            + " subscription(0,3,4)=26 subscription(0,3,5)=27 subscription(0,3,6)=26 subscription(0,3,7)=28");
        takes("sub0 a/b/c/d 0 0;sub0 +/+/+/+ 0 0;sub0 a/b/c/# 0 0;", 3);
        faulty("sub0 a/b/c/d/ 0 0;", 12, 2);
        faulty("sub0 +/+/+/+/# 0 0;", 12, 2);
        faulty("sub0 / 0 0;", 5, 2);
        faulty("sub0 a/ 0 0;", 8, 2);
        faulty("sub0 a//b 0 0;", 7, 2);
        faulty("sub0 #/# 0 0;", 6, 2);
        faulty("sub0 a/#/b 0 0;", 8, 2);
        faulty("sub0 ab 0 0;", 5, 2);
        faulty("sub0 a/b/c/de 0 0;", 11, 2);
    }

    private void bounds() {
        e.edge(4, "sub: CLIENT (0 to 5), FILTER, PROMISE, GROUP (0 to 3).");
        for (int c = 0; c <= 5; c++) {
            e.run("type:sub" + c + "_a_2_3; text()=1 client(" + c + ",0)=2 client(" + c + ",3)=1");
        }
        faulty("sub6 a 0 0;", 3, 3);
        faulty("sub 06 a 0 0;", 4, 3);
        faulty("sub99 a 0 0;", 3, 3);
        for (int promise = 0; promise <= 2; promise++) {
            for (int group = 0; group <= 3; group++) {
                e.run("type:sub5_a_" + promise + "_" + group + "; text()=1 subscription(5,0,1)=" + promise
                    + " subscription(5,0,2)=" + group);
            }
        }
        faulty("sub5 a 3 3;", 7, 3);
        faulty("sub5 a 10 3;", 7, 3);
        faulty("sub5 a 2 4;", 9, 3);
        faulty("sub5 a 2 10;", 9, 3);
        e.edge(4, "kept: TOPIC, VALUE (1 to 99), PROMISE.");
        e.run("type:kept_a_1_0;kept_a/b/c/d_99_2; text()=2 kept(0,1)=1 kept(0,2)=0 kept(1,1)=99 kept(1,2)=2 kept(1,7)=4");
        faulty("kept a 0 0;", 7, 3);
        faulty("kept a 00 0;", 7, 3);
        takes("kept a 01 00;", 1);
        faulty("kept a 99 3;", 10, 3);
    }

    private void leastPlace() {
        e.edge(4, "FAULTS: of several the one whose place is least,");
        faulty("sub6 ab 100 ~", 3, 3);
        faulty("sub0 ab 100 ~", 5, 2);
        faulty("sub0 a 100 ~", 7, 1);
        faulty("sub0 a 0 ~9", 9, 1);
        faulty("sub0 a 3 4;", 7, 3);
        faulty("sub0 a 0 4~", 9, 3);
        faulty("sub0 a 0 0;sub0 a 0 0;~", 21, 4);
        faulty("sub0 a 0 0;sub0 a 0 4;", 20, 3);
        faulty("sub0 a 0 0;sub0 a 0 0~;", 21, 1);
        faulty("sub0 a 0 0;sub0 a 0 0", 21, 2);
        faulty("subs ~", 0, 2);
        faulty("a 100", 0, 2);
    }

    private void onePlace() {
        e.edge(4, "of one place the first here (a TOKEN is read when the one before has been taken, its own faults ahead of that):");
        faulty("100", 0, 1);
        faulty("sub100 a 0 0;", 3, 1);
        faulty("sub0 100 0 0;", 5, 1);
        faulty("sub0 a 0 0 100", 11, 1);
        faulty("sub0 9 0 0;", 5, 2);
        faulty("kept 0 0 0;", 5, 2);
        faulty("sub0 a 0 0 9;", 11, 2);
        faulty("sub0 a/100", 7, 1);
        faulty("sub0 a/b/c/d~", 12, 1);
        faulty("sub0 #~", 6, 1);
        faulty("kept a 1 0;kept a 2 0~", 21, 1);
        faulty("kept a 0~", 7, 3);
        faulty("kept ab~", 5, 2);
    }

    private void faultOne() {
        e.edge(4, "1 no TOKEN, a NUMBER that is too long (its first byte).");
        faulty("sub0 a 0 0;A", 11, 1);
        faulty("sub0 A 0 0;", 5, 1);
        faulty("sub0 Z 0 0;", 5, 1);
        faulty("sub0 ` 0 0;", 5, 1);
        faulty("sub0 { 0 0;", 5, 1);
        faulty("sub: a 0 0;", 3, 1);
        faulty("sub. a 0 0;", 3, 1);
        faulty("sub0 a,0 0;", 6, 1);
        faulty("sub0 a-0 0;", 6, 1);
        faulty("sub0 a 0 0:", 10, 1);
        faulty("sub 00 a 0 0;sub 111 a 0 0;", 17, 1);
        faulty("kept a 12345 0;", 7, 1);
    }

    private void faultTwo() {
        e.edge(4, "2 a TOKEN that can not stand there (a NAME of more letters in F, a NAME that begins no line,");
        takes("sub0 a 0 0;", 1);
        faulty("sub0 ab 0 0;", 5, 2);
        faulty("sub0 a/bc 0 0;", 7, 2);
        faulty("kept ab 1 0;", 5, 2);
        faulty("kept a/sub 1 0;", 7, 2);
        for (String name : new String[] {"s", "su", "subs", "sbu", "tub", "sab", "suc", "k", "kep", "keep", "kepts", "lept",
            "kfpt", "keqt", "kepu", "subkept", "z"}) {
            faulty(name + " 0 a 0 0;", 0, 2);
            faulty("kept a 1 0;" + name, 11, 2);
        }
        e.edge(4, "a / behind 4 LEVELS, behind #; + or # in kept;");
        takes("sub0 a/b/c/d 0 0;kept a/b/c/d 1 0;", 2);
        faulty("sub0 a/b/c/d/", 12, 2);
        faulty("kept a/b/c/d/e 1 0;", 12, 2);
        faulty("sub0 #/", 6, 2);
        faulty("sub0 a/#/b 0 0;", 8, 2);
        faulty("sub0 a/b/c/#/d 0 0;", 12, 2);
        takes("sub0 +/a 0 0;", 1);
        faulty("kept + 1 0;", 5, 2);
        faulty("kept # 1 0;", 5, 2);
        faulty("kept a/+ 1 0;", 7, 2);
        faulty("kept a/b/c/# 1 0;", 11, 2);
        faulty("kept a/+/b 1 0;", 7, 2);
        e.edge(4, "or the end: the length).");
        faulty("sub", 3, 2);
        faulty("sub ", 4, 2);
        faulty("sub0 a 0 0   ", 13, 2);
        faulty("kept a/", 7, 2);
        faulty("sub0 a 0 0;kept", 15, 2);
        takes("sub0 a 0 0;    ", 1);
    }

    private void faultThree() {
        e.edge(4, "3 a NUMBER out of its bounds.");
        takes("sub0 a 0 0;sub5 a 2 3;kept a 1 0;kept b 99 2;", 4);
        faulty("sub0 a 0 0;sub6 a 0 0;", 14, 3);
        faulty("sub5 a 3 0;", 7, 3);
        faulty("sub5 a 0 4;", 9, 3);
        faulty("kept a 0 0;", 7, 3);
        faulty("kept a 1 3;", 9, 3);
        faulty("sub50 a 0 0;", 3, 3);
        faulty("sub0 a 20 0;", 7, 3);
        faulty("sub0 a 0 30;", 9, 3);
    }

    private void faultFour() {
        e.edge(4, "As a line is read to its end, at its ; : 4 that CLIENT has one of that FILTER and GROUP; that TOPIC is KEPT;");
        faulty("sub0 a 0 0;sub0 a 0 0;", 21, 4);
        faulty("sub0 a 0 0;sub0 a 2 0  ;", 23, 4);
        faulty("sub5 +/# 0 3;sub0 a 0 0;sub5 +/# 1 3;", 36, 4);
        takes("sub0 a 0 0;sub0 a 0 1;sub0 a 0 2;sub0 a 0 3;", 4);
        takes("sub0 a 0 0;sub1 a 0 0;sub0 b 0 0;sub0 a/a 0 0;sub0 a/# 0 0;sub0 + 0 0;", 6);
        takes("sub0 a/b/c/d 0 0;sub0 a/b/c/e 0 0;sub0 a/b/c 0 0;", 3);
        faulty("kept a 1 0;kept a 1 0;", 21, 4);
        faulty("kept a/b 1 0;kept b 1 0;kept a/b 2 1 ;", 37, 4);
        takes("kept a 1 0;kept b 1 0;kept a/a 1 0;kept a/b 1 0;sub0 a 0 0;", 5);
        faulty("sub0 a 0 0;sub0 a 0 0 0;", 22, 2);
    }

    private static String lines(String ahead, String letters, String behind) {
        StringBuilder text = new StringBuilder();
        for (char letter : letters.toCharArray()) {
            text.append(ahead).append(letter).append(behind);
        }
        return text.toString();
    }

    private void faultFive() {
        e.edge(4, "5 the 7th of that CLIENT, the 13th KEPT.");
        String six = lines("sub2 ", "abcdef", " 0 0;");
        takes(six, 6);
        takes(six + lines("sub3 ", "abcdef", " 0 0;"), 12);
        faulty(six + "sub2 g 0 0;", 76, 5);
        faulty(six + "sub2 a 0 1;", 76, 5);
        faulty(six + "sub2 a 0 0;", 76, 4);
        faulty(six + "sub2 g 0 0", 76, 2);
        faulty(six + "sub2 g 0 0~", 76, 1);
        String twelve = lines("kept ", "abcdefghijkl", " 1 0;");
        takes(twelve, 12);
        takes(twelve + "sub0 m 0 0;", 13);
        faulty(twelve + "kept m 1 0;", 142, 5);
        faulty(twelve + "kept l 1 0;", 142, 4);
        faulty(twelve + "kept m 1 0", 142, 2);
    }

    private void taken() {
        e.edge(4, "A text that is taken tells SUBSCRIPTIONS and KEPT (by lines; their LETTERS are 0 on), in place of all there was:");
        e.run("told:kept_b_7_1;sub3_z_2_1;kept_a_99_2;sub3_a_0_0; rule(6)=2 kept(0,4)=2 kept(0,3)=0 kept(1,4)=1 kept(1,3)=1"
            + " kept(2,0)=NONE client(3,3)=2 subscription(3,0,4)=26 subscription(3,1,4)=1 subscription(3,2,0)=NONE rule(7)=1");
        e.run("told:kept_a_1_0;sub0_a_0_0; told:kept_b_2_0;sub1_b_0_0; rule(6)=1 kept(0,1)=2 kept(0,3)=0 rule(1)=1"
            + " client(0,0)=0 client(1,3)=1 subscription(1,0,4)=2");
        for (int c = 0; c <= 5; c++) {
            String one = "sub%_a_0_0;sub%_b_0_1;".replace("%", "" + c);
            String gone = " client(%,0)=0 client(%,3)=NONE rule(7)=0".replace("%", "" + c);
            e.run("told:" + one + " type:" + one + "kept_c_1_0; text()=3 client(" + c + ",3)=2 rule(7)=1 text()=0" + gone);
            e.run("type:" + one + "~ text()=-32 text()=0" + gone);
            e.run("type:" + one + "~ text()=-32 told:" + one + " client(" + c + ",3)=2");
        }
        e.edge(4, "who has one has a SESSION, ASLEEP, of LIFE 99 from CLOCK 0 on (it ends at 99);");
        Run run = e.run("tick(7) told:sub0_a_0_0;sub5_a_0_1;kept_a_1_0; client(0,0)=2 client(5,0)=2 client(0,1)=99 client(0,2)=99");
        for (int c = 1; c <= 4; c++) {
            run.then("client(" + c + ",0)=0 client(" + c + ",1)=NONE");
        }
        run.then("tick(50) tick(48) rule(0)=98 client(0,0)=2 client(5,0)=2 rule(7)=1 tick(1) client(0,0)=0 client(5,0)=0 rule(7)=0");
        e.run("told:sub0_a_0_0; tick(50) tick(48) wake(0,0,0)=1 tick(1) client(0,0)=1 client(0,3)=1");
        e.run("told:sub0_a_0_0; tick(50) tick(49) wake(0,0,0)=0 client(0,3)=0");
    }

    private void inPlaceOfAll() {
        e.edge(4, "CLOCK 0, all counts are 0 (LETTERS: those of KEPT), THE ROW is empty, IMAGES are gone.");
        String busy = "wake(0,1,9) wake(1,1,9) row:a subscribe(0,2,0) subscribe(0,1,1) say(0,0,5,1,1) carry(0,0,0) carry(0,1,0)"
            + " will(1,5,0,0,4) sleep(1,1) say(0,0,6,2,0) carry(0,0,0) carry(0,0,0) alias(0,1) row:b subscribe(1,0,0) keep(0) keep(1) tick(2) ";
        String[] texts = {"", "kept_a_1_0;kept_b_1_0;kept_c_2_0;", "sub0_a_1_1;sub4_b_0_0;"};
        int[][] rules = {{0, 0, 0, 0, 0, 0, 0, 0, 0, 0, 0}, {0, 3, 0, 0, 0, 0, 3, 0, 0, 0, 0}, {0, 0, 0, 0, 0, 0, 0, 1, 0, 0, 0}};
        for (int n = 0; n < texts.length; n++) {
            Run run = e.run(busy + "type:" + texts[n] + " text() fault()=0");
            for (int what = 0; what <= 10; what++) {
                run.then("rule(" + what + ")=" + rules[n][what]);
            }
            run.then("back(0)=STATE back(1)=STATE client(0,12)=0 took(0,0,0)=NONE client(1,11)=NONE top()=0 tick(2)=0");
            run.then("row:a had(1)=NONE keep(0)=0");
            e.same("as by a new object", Look.world(e.run(busy + "told:" + texts[n])), Look.world(e.run("told:" + texts[n])));
        }
        e.run("told:sub0_a_1_1; row:a wake(0,0,9) say(0,0,5,1,0) had(1)=0 told:sub0_a_1_1; row:a had(1)=NONE");
        e.run("told:kept_a_1_0; wake(0,1,9) row:b say(0,0,7,0,1) kept(1,3)=1 rule(1)=2");
    }
}
