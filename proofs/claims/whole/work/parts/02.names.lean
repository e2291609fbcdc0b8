/-! PRINTED by gen.py out of the claim's own tables: classes, normalised code, links. Methods by number:
0 CoatedBridges$Book.<init>()V locals 1 depth 1 heads []
1 CoatedBridges$Book.copyFrom(LCoatedBridges$Book;)V locals 3 depth 0 heads [10]
2 CoatedBridges$Book.note(II)V locals 3 depth 1 heads []
3 CoatedBridges$Book.dropFirst()V locals 2 depth 0 heads [2]
4 CoatedBridges$Book.dayAgo(I)I locals 2 depth 0 heads []
5 CoatedBridges$Book.complaintsAgo(I)I locals 2 depth 0 heads []
6 CoatedBridges$Bridge.<init>()V locals 1 depth 1 heads []
7 CoatedBridges$Bridge.begin(III)V locals 4 depth 0 heads []
8 CoatedBridges$Bridge.copyFrom(LCoatedBridges$Bridge;)V locals 2 depth 0 heads []
9 CoatedBridges$Bridge.takeCrew()V locals 1 depth 0 heads []
10 CoatedBridges$Bridge.loseCrew()V locals 1 depth 0 heads []
11 CoatedBridges$Bridge.paint(II)V locals 3 depth 1 heads []
12 CoatedBridges$Bridge.wearOff()V locals 1 depth 1 heads []
13 CoatedBridges$Bridge.daysUntilRusted()I locals 2 depth 0 heads [2]
14 CoatedBridges$Island.<init>()V locals 1 depth 1 heads []
15 CoatedBridges$Island.begin(I)V locals 2 depth 0 heads []
16 CoatedBridges$Island.copyFrom(LCoatedBridges$Island;)V locals 2 depth 0 heads []
17 CoatedBridges$Island.waitAlone(I)Z locals 2 depth 1 heads []
18 CoatedBridges$State.<init>()V locals 2 depth 2 heads [60, 87]
19 CoatedBridges$State.copyFrom(LCoatedBridges$State;)V locals 3 depth 1 heads [10, 49, 80]
20 CoatedBridges$State.hasIsland(I)Z locals 2 depth 0 heads []
21 CoatedBridges$State.hasBridge(I)Z locals 2 depth 0 heads []
22 CoatedBridges$State.addIsland(I)I locals 2 depth 1 heads []
23 CoatedBridges$State.addBridge(III)I locals 4 depth 1 heads []
24 CoatedBridges$State.sendCrew(II)I locals 6 depth 4 heads []
25 CoatedBridges$State.callBack(I)I locals 2 depth 1 heads []
26 CoatedBridges$State.payIn(I)I locals 2 depth 1 heads []
27 CoatedBridges$State.changeSetting(II)I locals 4 depth 0 heads []
28 CoatedBridges$State.endDays(I)I locals 4 depth 4 heads [33]
29 CoatedBridges$State.endDay()I locals 5 depth 3 heads [58]
30 CoatedBridges$State.paintBridges()V locals 3 depth 2 heads [9]
31 CoatedBridges$State.wearBridges(I)V locals 3 depth 2 heads [2]
32 CoatedBridges$State.letIslandsWait()I locals 5 depth 2 heads [11]
33 CoatedBridges$State.payFerry(LCoatedBridges$Island;)V locals 2 depth 0 heads []
34 CoatedBridges$State.receive(I)V locals 2 depth 0 heads []
35 CoatedBridges$State.freeCrews()I locals 1 depth 1 heads []
36 CoatedBridges$State.reasonAgainst(I)I locals 2 depth 3 heads []
37 CoatedBridges$State.bridgeToPaintNext()I locals 6 depth 2 heads [33]
38 CoatedBridges$State.bridgesThatAre(I)I locals 4 depth 0 heads [4]
39 CoatedBridges$State.reachFrom(II)I locals 6 depth 1 heads [7]
40 CoatedBridges$State.oneBridgeOn(II)I locals 6 depth 0 heads [5]
41 CoatedBridges$State.lostWithout(I)I locals 2 depth 2 heads []
42 CoatedBridges$State.neededBridges()I locals 4 depth 2 heads [11]
43 CoatedBridges$State.bridgesTo(I)I locals 4 depth 1 heads [4]
44 CoatedBridges$State.openBridgesAt(I)I locals 4 depth 1 heads [4]
45 CoatedBridges$State.groups()I locals 4 depth 2 heads [6]
46 CoatedBridges$State.lowestOnes()I locals 3 depth 2 heads [4]
47 CoatedBridges$State.coatsTogether()I locals 3 depth 0 heads [4]
48 CoatedBridges$State.complaintsSoFar()I locals 3 depth 0 heads [4]
49 CoatedBridges$State.longestWaitSoFar()I locals 3 depth 1 heads [4]
50 CoatedBridges$Text.<init>()V locals 1 depth 1 heads []
51 CoatedBridges$Text.append(C)Z locals 2 depth 0 heads []
52 CoatedBridges$Text.readOrder(I)Z locals 4 depth 2 heads [44]
53 CoatedBridges$Text.numbersOf(C)I locals 1 depth 0 heads []
54 CoatedBridges$Text.take(C)Z locals 2 depth 0 heads []
55 CoatedBridges$Text.readNumber(I)Z locals 4 depth 1 heads [4]
56 CoatedBridges$Text.atDigit()Z locals 1 depth 0 heads []
57 CoatedBridges.<init>()V locals 2 depth 3 heads [47]
58 CoatedBridges.island(I)I locals 2 depth 3 heads []
59 CoatedBridges.bridge(III)I locals 4 depth 3 heads []
60 CoatedBridges.send(II)I locals 3 depth 5 heads []
61 CoatedBridges.recall(I)I locals 2 depth 3 heads []
62 CoatedBridges.pay(I)I locals 2 depth 3 heads []
63 CoatedBridges.days(I)I locals 2 depth 5 heads []
64 CoatedBridges.set(II)I locals 3 depth 3 heads []
65 CoatedBridges.bridgeOf(II)I locals 4 depth 3 heads []
66 CoatedBridges.islandOf(II)I locals 4 depth 2 heads []
67 CoatedBridges.reach(I)I locals 2 depth 2 heads []
68 CoatedBridges.book(II)I locals 3 depth 1 heads []
69 CoatedBridges.why(II)I locals 4 depth 4 heads []
70 CoatedBridges.best()I locals 1 depth 3 heads []
71 CoatedBridges.rustsIn(I)I locals 3 depth 1 heads []
72 CoatedBridges.paintedIn(I)I locals 4 depth 4 heads [40]
73 CoatedBridges.aloneIn()I locals 4 depth 4 heads [17]
74 CoatedBridges.ifDays(I)I locals 5 depth 4 heads [24]
75 CoatedBridges.mean()I locals 1 depth 1 heads []
76 CoatedBridges.count(I)I locals 2 depth 3 heads []
77 CoatedBridges.undo()I locals 2 depth 0 heads []
78 CoatedBridges.type(I)I locals 2 depth 1 heads []
79 CoatedBridges.clearText()I locals 2 depth 0 heads []
80 CoatedBridges.fault(I)I locals 2 depth 7 heads []
81 CoatedBridges.play()I locals 1 depth 7 heads []
82 CoatedBridges.startTrial()LCoatedBridges$State; locals 1 depth 2 heads []
83 CoatedBridges.settle(I)I locals 3 depth 1 heads []
84 CoatedBridges.dropOldest()V locals 3 depth 0 heads [9]
85 CoatedBridges.obeyText(LCoatedBridges$State;)I locals 5 depth 6 heads [4]
86 CoatedBridges.noteFault(III)V locals 4 depth 0 heads []
87 CoatedBridges.obeyOrder(LCoatedBridges$State;)I locals 3 depth 5 heads []
88 CoatedBridges.holds(II)Z locals 2 depth 0 heads []
89 CoatedBridges.lowestIn(I)I locals 1 depth 1 heads []
90 CoatedBridges.bitsOf(F)I locals 4 depth 0 heads [15, 42]
91 CoatedBridgesModel.<init>()V locals 1 depth 1 heads []
92 CoatedBridgesModel.in(III)Z locals 3 depth 0 heads []
93 CoatedBridgesModel.copies([II[II)V locals 5 depth 0 heads [3]
94 CoatedBridgesModel.records()V locals 2 depth 1 heads [10]
95 CoatedBridgesModel.isIsland(I)Z locals 2 depth 1 heads []
96 CoatedBridgesModel.isBridge(I)Z locals 2 depth 1 heads []
97 CoatedBridgesModel.of(II)I locals 3 depth 0 heads []
98 CoatedBridgesModel.lays(III)V locals 4 depth 0 heads []
99 CoatedBridgesModel.adds(III)V locals 4 depth 0 heads []
100 CoatedBridgesModel.ofIsland(II)I locals 3 depth 0 heads []
101 CoatedBridgesModel.laysIsland(III)V locals 4 depth 0 heads []
102 CoatedBridgesModel.addsIsland(II)V locals 3 depth 0 heads []
103 CoatedBridgesModel.isPainted(I)Z locals 2 depth 1 heads []
104 CoatedBridgesModel.isOpen(I)Z locals 2 depth 1 heads []
105 CoatedBridgesModel.stateOf(I)I locals 2 depth 2 heads []
106 CoatedBridgesModel.reached(II)I locals 7 depth 2 heads [7, 19]
107 CoatedBridgesModel.cutOff(I)I locals 2 depth 3 heads []
108 CoatedBridgesModel.painted()I locals 3 depth 1 heads [4]
109 CoatedBridgesModel.reasonOf(I)I locals 2 depth 4 heads []
110 CoatedBridgesModel.bestOne()I locals 4 depth 5 heads [5]
111 CoatedBridgesModel.goIsland(I)I locals 4 depth 1 heads [9]
112 CoatedBridgesModel.goBridge(III)I locals 6 depth 1 heads [11]
113 CoatedBridgesModel.goSend(I)I locals 3 depth 4 heads []
114 CoatedBridgesModel.goRecall(I)I locals 2 depth 1 heads []
115 CoatedBridgesModel.goPay(I)I locals 2 depth 0 heads []
116 CoatedBridgesModel.paints(I)V locals 3 depth 1 heads []
117 CoatedBridgesModel.wears(I)V locals 3 depth 1 heads []
118 CoatedBridgesModel.waits(IZ)I locals 5 depth 1 heads []
119 CoatedBridgesModel.books(I)V locals 3 depth 0 heads [3]
120 CoatedBridgesModel.endsDay()I locals 5 depth 6 heads [2, 31, 62, 124, 236]
121 CoatedBridgesModel.endsDays(I)I locals 4 depth 7 heads [4]
122 CoatedBridgesModel.errorIsland(I)I locals 2 depth 1 heads []
123 CoatedBridgesModel.errorBridge(III)I locals 5 depth 2 heads []
124 CoatedBridgesModel.errorSend(II)I locals 4 depth 5 heads []
125 CoatedBridgesModel.errorRecall(I)I locals 2 depth 2 heads []
126 CoatedBridgesModel.errorPay(I)I locals 2 depth 1 heads []
127 CoatedBridgesModel.errorDays(I)I locals 2 depth 1 heads []
128 CoatedBridgesModel.island(I)I locals 3 depth 2 heads []
129 CoatedBridgesModel.bridge(III)I locals 5 depth 3 heads []
130 CoatedBridgesModel.send(II)I locals 4 depth 6 heads []
131 CoatedBridgesModel.recall(I)I locals 3 depth 3 heads []
132 CoatedBridgesModel.pay(I)I locals 3 depth 2 heads []
133 CoatedBridgesModel.days(I)I locals 3 depth 8 heads []
134 CoatedBridgesModel.mostOf(I)I locals 1 depth 0 heads []
135 CoatedBridgesModel.set(II)I locals 4 depth 2 heads []
136 CoatedBridgesModel.undo()I locals 1 depth 1 heads []
137 CoatedBridgesModel.bridgeOf(II)I locals 3 depth 4 heads []
138 CoatedBridgesModel.openAt(I)I locals 4 depth 2 heads [4]
139 CoatedBridgesModel.fewestTo(I)I locals 7 depth 2 heads [4, 24]
140 CoatedBridgesModel.islandOf(II)I locals 3 depth 3 heads []
141 CoatedBridgesModel.reach(I)I locals 2 depth 3 heads []
142 CoatedBridgesModel.book(II)I locals 3 depth 1 heads []
143 CoatedBridgesModel.lowest(I)I locals 3 depth 0 heads [2]
144 CoatedBridgesModel.why(II)I locals 4 depth 5 heads []
145 CoatedBridgesModel.best()I locals 1 depth 6 heads []
146 CoatedBridgesModel.rustsIn(I)I locals 2 depth 2 heads []
147 CoatedBridgesModel.paintedIn(I)I locals 4 depth 7 heads [37]
148 CoatedBridgesModel.aloneIn()I locals 4 depth 7 heads [23]
149 CoatedBridgesModel.ifDays(I)I locals 3 depth 8 heads []
150 CoatedBridgesModel.mean()I locals 3 depth 2 heads [4]
151 CoatedBridgesModel.setOf(I)I locals 4 depth 3 heads [4]
152 CoatedBridgesModel.neededOnes()I locals 3 depth 4 heads [4]
153 CoatedBridgesModel.groups()I locals 3 depth 3 heads [4]
154 CoatedBridgesModel.ofIslands(IZ)I locals 6 depth 1 heads [5]
155 CoatedBridgesModel.count(I)I locals 2 depth 5 heads []
156 CoatedBridgesModel.type(I)I locals 2 depth 1 heads []
157 CoatedBridgesModel.clearText()I locals 2 depth 0 heads []
158 CoatedBridgesModel.here()I locals 1 depth 0 heads []
159 CoatedBridgesModel.takes(Z)V locals 2 depth 0 heads []
160 CoatedBridgesModel.takesNumber(I)V locals 4 depth 1 heads [4]
161 CoatedBridgesModel.takesOrder()V locals 2 depth 2 heads [95]
162 CoatedBridgesModel.errorOfOrder()I locals 1 depth 6 heads []
163 CoatedBridgesModel.doesOrder()I locals 1 depth 8 heads []
164 CoatedBridgesModel.doesAll()I locals 4 depth 9 heads [12]
165 CoatedBridgesModel.fault(I)I locals 3 depth 10 heads []
166 CoatedBridgesModel.play()I locals 2 depth 10 heads []
167 java/lang/Float.isNaN(F)Z locals 1 depth 0 heads []
168 java/lang/Float.floatToIntBits(F)I locals 1 depth 1 heads []
169 java/lang/Integer.numberOfTrailingZeros(I)I locals 2 depth 0 heads []
170 java/lang/Integer.bitCount(I)I locals 1 depth 0 heads []
171 java/lang/Math.max(II)I locals 2 depth 0 heads []
172 java/lang/Math.min(II)I locals 2 depth 0 heads []
173 CoatedBridgesLaw.law([I)Z locals 4 depth 11 heads [18]
-/
def RX0 : String := "CoatedBridges$Book"
def TX0 : u_T := fun k => match k with
  | 0 => ("CoatedBridges$Book", "days", "[I", true)
  | 1 => ("CoatedBridges$Book", "complaints", "[I", true)
  | _ => ("CoatedBridges$Book", "length", "I", false)
def tyX0 : Nat → FieldType := fun k => match k with
  | 0 => .array .int
  | 1 => .array .int
  | _ => .int
theorem nmX0 : ∀ a, a < 3 → ∀ b, b < 3 → a ≠ b → (TX0 a).2.1 ≠ (TX0 b).2.1 := by decide +kernel
theorem tyX0_ok : ∀ k, k < 3 → parseFieldDescriptor (TX0 k).2.2.1 = some (tyX0 k) := by decide +kernel
def RX1 : String := "CoatedBridges$Bridge"
def TX1 : u_T := fun k => match k with
  | 0 => ("CoatedBridges$Bridge", "one", "I", false)
  | 1 => ("CoatedBridges$Bridge", "other", "I", false)
  | 2 => ("CoatedBridges$Bridge", "ends", "I", false)
  | 3 => ("CoatedBridges$Bridge", "wear", "I", false)
  | 4 => ("CoatedBridges$Bridge", "coat", "I", false)
  | 5 => ("CoatedBridges$Bridge", "condition", "I", false)
  | 6 => ("CoatedBridges$Bridge", "timesSent", "I", false)
  | 7 => ("CoatedBridges$Bridge", "closedDays", "I", false)
  | _ => ("CoatedBridges$Bridge", "paintCoins", "I", false)
def tyX1 : Nat → FieldType := fun k => match k with
  | 0 => .int
  | 1 => .int
  | 2 => .int
  | 3 => .int
  | 4 => .int
  | 5 => .int
  | 6 => .int
  | 7 => .int
  | _ => .int
theorem nmX1 : ∀ a, a < 9 → ∀ b, b < 9 → a ≠ b → (TX1 a).2.1 ≠ (TX1 b).2.1 := by decide +kernel
theorem tyX1_ok : ∀ k, k < 9 → parseFieldDescriptor (TX1 k).2.2.1 = some (tyX1 k) := by decide +kernel
def RX2 : String := "CoatedBridges$Island"
def TX2 : u_T := fun k => match k with
  | 0 => ("CoatedBridges$Island", "fare", "I", false)
  | 1 => ("CoatedBridges$Island", "waited", "I", false)
  | 2 => ("CoatedBridges$Island", "longestWait", "I", false)
  | 3 => ("CoatedBridges$Island", "complaints", "I", false)
  | _ => ("CoatedBridges$Island", "ferryDays", "I", false)
def tyX2 : Nat → FieldType := fun k => match k with
  | 0 => .int
  | 1 => .int
  | 2 => .int
  | 3 => .int
  | _ => .int
theorem nmX2 : ∀ a, a < 5 → ∀ b, b < 5 → a ≠ b → (TX2 a).2.1 ≠ (TX2 b).2.1 := by decide +kernel
theorem tyX2_ok : ∀ k, k < 5 → parseFieldDescriptor (TX2 k).2.2.1 = some (tyX2 k) := by decide +kernel
def RX3 : String := "CoatedBridges$State"
def TX3 : u_T := fun k => match k with
  | 0 => ("CoatedBridges$State", "islands", "[LCoatedBridges$Island;", true)
  | 1 => ("CoatedBridges$State", "bridges", "[LCoatedBridges$Bridge;", true)
  | 2 => ("CoatedBridges$State", "settings", "[I", true)
  | 3 => ("CoatedBridges$State", "complaintBook", "LCoatedBridges$Book;", true)
  | 4 => ("CoatedBridges$State", "islandCount", "I", false)
  | 5 => ("CoatedBridges$State", "bridgeCount", "I", false)
  | 6 => ("CoatedBridges$State", "now", "I", false)
  | 7 => ("CoatedBridges$State", "purse", "I", false)
  | 8 => ("CoatedBridges$State", "paintCoins", "I", false)
  | 9 => ("CoatedBridges$State", "ferryCoins", "I", false)
  | _ => ("CoatedBridges$State", "comeCoins", "I", false)
def tyX3 : Nat → FieldType := fun k => match k with
  | 0 => .array (.object "CoatedBridges$Island")
  | 1 => .array (.object "CoatedBridges$Bridge")
  | 2 => .array .int
  | 3 => .object "CoatedBridges$Book"
  | 4 => .int
  | 5 => .int
  | 6 => .int
  | 7 => .int
  | 8 => .int
  | 9 => .int
  | _ => .int
theorem nmX3 : ∀ a, a < 11 → ∀ b, b < 11 → a ≠ b → (TX3 a).2.1 ≠ (TX3 b).2.1 := by decide +kernel
theorem tyX3_ok : ∀ k, k < 11 → parseFieldDescriptor (TX3 k).2.2.1 = some (tyX3 k) := by decide +kernel
def RX4 : String := "CoatedBridges$Text"
def TX4 : u_T := fun k => match k with
  | 0 => ("CoatedBridges$Text", "characters", "[C", true)
  | 1 => ("CoatedBridges$Text", "length", "I", false)
  | 2 => ("CoatedBridges$Text", "numbers", "[I", true)
  | 3 => ("CoatedBridges$Text", "kind", "C", false)
  | _ => ("CoatedBridges$Text", "at", "I", false)
def tyX4 : Nat → FieldType := fun k => match k with
  | 0 => .array .char
  | 1 => .int
  | 2 => .array .int
  | 3 => .char
  | _ => .int
theorem nmX4 : ∀ a, a < 5 → ∀ b, b < 5 → a ≠ b → (TX4 a).2.1 ≠ (TX4 b).2.1 := by decide +kernel
theorem tyX4_ok : ∀ k, k < 5 → parseFieldDescriptor (TX4 k).2.2.1 = some (tyX4 k) := by decide +kernel
def RX5 : String := "CoatedBridges"
def TX5 : u_T := fun k => match k with
  | 0 => ("CoatedBridges", "state", "LCoatedBridges$State;", false)
  | 1 => ("CoatedBridges", "trial", "LCoatedBridges$State;", false)
  | 2 => ("CoatedBridges", "history", "[LCoatedBridges$State;", true)
  | 3 => ("CoatedBridges", "historyLength", "I", false)
  | 4 => ("CoatedBridges", "text", "LCoatedBridges$Text;", true)
  | 5 => ("CoatedBridges", "faultPosition", "I", false)
  | 6 => ("CoatedBridges", "faultReason", "I", false)
  | _ => ("CoatedBridges", "faultCause", "I", false)
def tyX5 : Nat → FieldType := fun k => match k with
  | 0 => .object "CoatedBridges$State"
  | 1 => .object "CoatedBridges$State"
  | 2 => .array (.object "CoatedBridges$State")
  | 3 => .int
  | 4 => .object "CoatedBridges$Text"
  | 5 => .int
  | 6 => .int
  | _ => .int
theorem nmX5 : ∀ a, a < 8 → ∀ b, b < 8 → a ≠ b → (TX5 a).2.1 ≠ (TX5 b).2.1 := by decide +kernel
theorem tyX5_ok : ∀ k, k < 8 → parseFieldDescriptor (TX5 k).2.2.1 = some (tyX5 k) := by decide +kernel
def RX6 : String := "CoatedBridgesModel"
def TX6 : u_T := fun k => match k with
  | 0 => ("CoatedBridgesModel", "s", "[I", true)
  | 1 => ("CoatedBridgesModel", "aside", "[I", true)
  | 2 => ("CoatedBridgesModel", "before", "[I", true)
  | 3 => ("CoatedBridgesModel", "past", "[I", true)
  | 4 => ("CoatedBridgesModel", "known", "I", false)
  | 5 => ("CoatedBridgesModel", "text", "[I", true)
  | 6 => ("CoatedBridgesModel", "length", "I", false)
  | 7 => ("CoatedBridgesModel", "wasOpen", "[Z", true)
  | 8 => ("CoatedBridgesModel", "spot", "I", false)
  | 9 => ("CoatedBridgesModel", "begin", "I", false)
  | 10 => ("CoatedBridgesModel", "isForm", "Z", false)
  | 11 => ("CoatedBridgesModel", "letter", "I", false)
  | 12 => ("CoatedBridgesModel", "tells", "[I", true)
  | 13 => ("CoatedBridgesModel", "faultReason", "I", false)
  | _ => ("CoatedBridgesModel", "faultCause", "I", false)
def tyX6 : Nat → FieldType := fun k => match k with
  | 0 => .array .int
  | 1 => .array .int
  | 2 => .array .int
  | 3 => .array .int
  | 4 => .int
  | 5 => .array .int
  | 6 => .int
  | 7 => .array .boolean
  | 8 => .int
  | 9 => .int
  | 10 => .boolean
  | 11 => .int
  | 12 => .array .int
  | 13 => .int
  | _ => .int
theorem nmX6 : ∀ a, a < 15 → ∀ b, b < 15 → a ≠ b → (TX6 a).2.1 ≠ (TX6 b).2.1 := by decide +kernel
theorem tyX6_ok : ∀ k, k < 15 → parseFieldDescriptor (TX6 k).2.2.1 = some (tyX6 k) := by decide +kernel
abbrev AEnt : Type := Nat × Instr × Nat × Nat
def rN (o : Nat) : String := match o with
  | 0 => "CoatedBridges$Book"
  | 1 => "CoatedBridges$Bridge"
  | 2 => "CoatedBridges$Island"
  | 3 => "CoatedBridges$State"
  | 4 => "CoatedBridges$Text"
  | 5 => "CoatedBridges"
  | 6 => "CoatedBridgesModel"
  | 7 => "CoatedBridgesLaw"
  | 8 => "java/lang/Integer"
  | 9 => "java/lang/Math"
  | _ => "java/lang/Float"
def nFl (ci : Nat) : Nat := match ci with
  | 0 => 3
  | 1 => 9
  | 2 => 5
  | 3 => 11
  | 4 => 5
  | 5 => 8
  | 6 => 15
  | _ => 0
def fTy (ci k : Nat) : Nat := match ci with
  | 0 => (match k with
    | 0 => 3
    | 1 => 3
    | 2 => 0
    | _ => 0)
  | 1 => (match k with
    | 0 => 0
    | 1 => 0
    | 2 => 0
    | 3 => 0
    | 4 => 0
    | 5 => 0
    | 6 => 0
    | 7 => 0
    | 8 => 0
    | _ => 0)
  | 2 => (match k with
    | 0 => 0
    | 1 => 0
    | 2 => 0
    | 3 => 0
    | 4 => 0
    | _ => 0)
  | 3 => (match k with
    | 0 => 3
    | 1 => 3
    | 2 => 3
    | 3 => 3
    | 4 => 0
    | 5 => 0
    | 6 => 0
    | 7 => 0
    | 8 => 0
    | 9 => 0
    | 10 => 0
    | _ => 0)
  | 4 => (match k with
    | 0 => 3
    | 1 => 0
    | 2 => 3
    | 3 => 2
    | 4 => 0
    | _ => 0)
  | 5 => (match k with
    | 0 => 3
    | 1 => 3
    | 2 => 3
    | 3 => 0
    | 4 => 3
    | 5 => 0
    | 6 => 0
    | 7 => 0
    | _ => 0)
  | 6 => (match k with
    | 0 => 3
    | 1 => 3
    | 2 => 3
    | 3 => 3
    | 4 => 0
    | 5 => 3
    | 6 => 0
    | 7 => 3
    | 8 => 0
    | 9 => 0
    | 10 => 1
    | 11 => 0
    | 12 => 3
    | 13 => 0
    | 14 => 0
    | _ => 0)
  | _ => 0
def cTT (ci : Nat) : u_T := match ci with
  | 0 => TX0
  | 1 => TX1
  | 2 => TX2
  | 3 => TX3
  | 4 => TX4
  | 5 => TX5
  | _ => TX6
def cTy (ci : Nat) : Nat → FieldType := match ci with
  | 0 => tyX0
  | 1 => tyX1
  | 2 => tyX2
  | 3 => tyX3
  | 4 => tyX4
  | 5 => tyX5
  | _ => tyX6
abbrev clz : List vw_C := [(RX0, TX0, 3), (RX1, TX1, 9), (RX2, TX2, 5), (RX3, TX3, 11), (RX4, TX4, 5), (RX5, TX5, 8), (RX6, TX6, 15)]
/-- the class of the objects in an array of references, by the array's kind -/
def aCl (k : Nat) : Nat := match k with
  | 13 => 2
  | 14 => 1
  | _ => 3
-- 0 CoatedBridges$Book.<init>()V
def pg0 : List AEnt := [(0, .aload 0, 1, 99), (1, .nop, 4, 99), (4, .aload 0, 5, 99), (5, .iconst (8), 7, 99), (7, .newarray .int, 9, 99), (9, .putfield 0, 12, 99), (12, .aload 0, 13, 99), (13, .iconst (8), 15, 99), (15, .newarray .int, 17, 99), (17, .putfield 1, 20, 99), (20, .return_, 21, 99)]
def ac0 : List Instr := [.aload_n 0, .invokespecial 3, .aload_n 0, .bipush 8, .newarray .int, .putfield 9, .aload_n 0, .bipush 8, .newarray .int, .putfield 15, .return_]
-- 1 CoatedBridges$Book.copyFrom(LCoatedBridges$Book;)V
def pg1 : List AEnt := [(0, .aload 0, 1, 99), (1, .aload 1, 2, 99), (2, .getfield 2, 5, 99), (5, .putfield 2, 8, 99), (8, .iconst (0), 9, 99), (9, .istore 2, 10, 99), (10, .iload 2, 11, 3), (11, .iconst (8), 13, 99), (13, .if_icmp .ge 46, 16, 99), (16, .aload 0, 17, 99), (17, .getfield 0, 20, 99), (20, .iload 2, 21, 99), (21, .aload 1, 22, 99), (22, .getfield 0, 25, 99), (25, .iload 2, 26, 99), (26, .iaload, 27, 99), (27, .iastore, 28, 99), (28, .aload 0, 29, 99), (29, .getfield 1, 32, 99), (32, .iload 2, 33, 99), (33, .aload 1, 34, 99), (34, .getfield 1, 37, 99), (37, .iload 2, 38, 99), (38, .iaload, 39, 99), (39, .iastore, 40, 99), (40, .iinc 2 (1), 43, 99), (43, .goto 10, 46, 99), (46, .return_, 47, 99)]
def ac1 : List Instr := [.aload_n 0, .aload_n 1, .getfield 18, .putfield 18, .iconst 0, .istore_n 2, .iload_n 2, .bipush 8, .if_icmp .ge 33, .aload_n 0, .getfield 9, .iload_n 2, .aload_n 1, .getfield 9, .iload_n 2, .iaload, .iastore, .aload_n 0, .getfield 15, .iload_n 2, .aload_n 1, .getfield 15, .iload_n 2, .iaload, .iastore, .iinc 2 1, .goto (-33), .return_]
-- 2 CoatedBridges$Book.note(II)V
def pg2 : List AEnt := [(0, .aload 0, 1, 99), (1, .getfield 2, 4, 99), (4, .iconst (8), 6, 99), (6, .if_icmp .lt 13, 9, 99), (9, .aload 0, 10, 99), (10, .invokevirtual 3, 13, 99), (13, .aload 0, 14, 99), (14, .getfield 0, 17, 99), (17, .aload 0, 18, 99), (18, .getfield 2, 21, 99), (21, .iload 1, 22, 99), (22, .iastore, 23, 99), (23, .aload 0, 24, 99), (24, .getfield 1, 27, 99), (27, .aload 0, 28, 99), (28, .getfield 2, 31, 99), (31, .iload 2, 32, 99), (32, .iastore, 33, 99), (33, .aload 0, 34, 99), (34, .dup, 35, 99), (35, .getfield 2, 38, 99), (38, .iconst (1), 39, 99), (39, .iadd, 40, 99), (40, .putfield 2, 43, 99), (43, .return_, 44, 99)]
def ac2 : List Instr := [.aload_n 0, .getfield 18, .bipush 8, .if_icmp .lt 7, .aload_n 0, .invokevirtual 22, .aload_n 0, .getfield 9, .aload_n 0, .getfield 18, .iload_n 1, .iastore, .aload_n 0, .getfield 15, .aload_n 0, .getfield 18, .iload_n 2, .iastore, .aload_n 0, .dup, .getfield 18, .iconst 1, .iadd, .putfield 18, .return_]
-- 3 CoatedBridges$Book.dropFirst()V
def pg3 : List AEnt := [(0, .iconst (1), 1, 99), (1, .istore 1, 2, 99), (2, .iload 1, 3, 2), (3, .iconst (8), 5, 99), (5, .if_icmp .ge 42, 8, 99), (8, .aload 0, 9, 99), (9, .getfield 0, 12, 99), (12, .iload 1, 13, 99), (13, .iconst (1), 14, 99), (14, .isub, 15, 99), (15, .aload 0, 16, 99), (16, .getfield 0, 19, 99), (19, .iload 1, 20, 99), (20, .iaload, 21, 99), (21, .iastore, 22, 99), (22, .aload 0, 23, 99), (23, .getfield 1, 26, 99), (26, .iload 1, 27, 99), (27, .iconst (1), 28, 99), (28, .isub, 29, 99), (29, .aload 0, 30, 99), (30, .getfield 1, 33, 99), (33, .iload 1, 34, 99), (34, .iaload, 35, 99), (35, .iastore, 36, 99), (36, .iinc 1 (1), 39, 99), (39, .goto 2, 42, 99), (42, .aload 0, 43, 99), (43, .iconst (7), 45, 99), (45, .putfield 2, 48, 99), (48, .return_, 49, 99)]
def ac3 : List Instr := [.iconst 1, .istore_n 1, .iload_n 1, .bipush 8, .if_icmp .ge 37, .aload_n 0, .getfield 9, .iload_n 1, .iconst 1, .isub, .aload_n 0, .getfield 9, .iload_n 1, .iaload, .iastore, .aload_n 0, .getfield 15, .iload_n 1, .iconst 1, .isub, .aload_n 0, .getfield 15, .iload_n 1, .iaload, .iastore, .iinc 1 1, .goto (-37), .aload_n 0, .bipush 7, .putfield 18, .return_]
-- 4 CoatedBridges$Book.dayAgo(I)I
def pg4 : List AEnt := [(0, .iload 1, 1, 99), (1, .aload 0, 2, 99), (2, .getfield 2, 5, 99), (5, .if_icmp .ge 24, 8, 99), (8, .aload 0, 9, 99), (9, .getfield 0, 12, 99), (12, .aload 0, 13, 99), (13, .getfield 2, 16, 99), (16, .iconst (1), 17, 99), (17, .isub, 18, 99), (18, .iload 1, 19, 99), (19, .isub, 20, 99), (20, .iaload, 21, 99), (21, .goto 26, 24, 99), (24, .iconst (-1000004), 26, 99), (26, .ireturn, 27, 99)]
def ac4 : List Instr := [.iload_n 1, .aload_n 0, .getfield 18, .if_icmp .ge 19, .aload_n 0, .getfield 9, .aload_n 0, .getfield 18, .iconst 1, .isub, .iload_n 1, .isub, .iaload, .goto 5, .ldc 25, .ireturn]
-- 5 CoatedBridges$Book.complaintsAgo(I)I
def pg5 : List AEnt := [(0, .iload 1, 1, 99), (1, .aload 0, 2, 99), (2, .getfield 2, 5, 99), (5, .if_icmp .ge 24, 8, 99), (8, .aload 0, 9, 99), (9, .getfield 1, 12, 99), (12, .aload 0, 13, 99), (13, .getfield 2, 16, 99), (16, .iconst (1), 17, 99), (17, .isub, 18, 99), (18, .iload 1, 19, 99), (19, .isub, 20, 99), (20, .iaload, 21, 99), (21, .goto 26, 24, 99), (24, .iconst (-1000004), 26, 99), (26, .ireturn, 27, 99)]
def ac5 : List Instr := [.iload_n 1, .aload_n 0, .getfield 18, .if_icmp .ge 19, .aload_n 0, .getfield 15, .aload_n 0, .getfield 18, .iconst 1, .isub, .iload_n 1, .isub, .iaload, .goto 5, .ldc 25, .ireturn]
-- 6 CoatedBridges$Bridge.<init>()V
def pg6 : List AEnt := [(0, .aload 0, 1, 99), (1, .nop, 4, 99), (4, .return_, 5, 99)]
def ac6 : List Instr := [.aload_n 0, .invokespecial 3, .return_]
-- 7 CoatedBridges$Bridge.begin(III)V
def pg7 : List AEnt := [(0, .aload 0, 1, 99), (1, .iload 1, 2, 99), (2, .putfield 100, 5, 99), (5, .aload 0, 6, 99), (6, .iload 2, 7, 99), (7, .putfield 101, 10, 99), (10, .aload 0, 11, 99), (11, .iconst (1), 12, 99), (12, .iload 1, 13, 99), (13, .ishl, 14, 99), (14, .iconst (1), 15, 99), (15, .iload 2, 16, 99), (16, .ishl, 17, 99), (17, .ior, 18, 99), (18, .putfield 102, 21, 99), (21, .aload 0, 22, 99), (22, .iload 3, 23, 99), (23, .putfield 103, 26, 99), (26, .aload 0, 27, 99), (27, .iconst (100), 29, 99), (29, .putfield 104, 32, 99), (32, .aload 0, 33, 99), (33, .iconst (0), 34, 99), (34, .putfield 105, 37, 99), (37, .aload 0, 38, 99), (38, .iconst (0), 39, 99), (39, .putfield 106, 42, 99), (42, .aload 0, 43, 99), (43, .iconst (0), 44, 99), (44, .putfield 107, 47, 99), (47, .aload 0, 48, 99), (48, .iconst (0), 49, 99), (49, .putfield 108, 52, 99), (52, .return_, 53, 99)]
def ac7 : List Instr := [.aload_n 0, .iload_n 1, .putfield 9, .aload_n 0, .iload_n 2, .putfield 15, .aload_n 0, .iconst 1, .iload_n 1, .ishl, .iconst 1, .iload_n 2, .ishl, .ior, .putfield 18, .aload_n 0, .iload_n 3, .putfield 21, .aload_n 0, .bipush 100, .putfield 24, .aload_n 0, .iconst 0, .putfield 27, .aload_n 0, .iconst 0, .putfield 30, .aload_n 0, .iconst 0, .putfield 33, .aload_n 0, .iconst 0, .putfield 36, .return_]
-- 8 CoatedBridges$Bridge.copyFrom(LCoatedBridges$Bridge;)V
def pg8 : List AEnt := [(0, .aload 0, 1, 99), (1, .aload 1, 2, 99), (2, .getfield 100, 5, 99), (5, .putfield 100, 8, 99), (8, .aload 0, 9, 99), (9, .aload 1, 10, 99), (10, .getfield 101, 13, 99), (13, .putfield 101, 16, 99), (16, .aload 0, 17, 99), (17, .aload 1, 18, 99), (18, .getfield 102, 21, 99), (21, .putfield 102, 24, 99), (24, .aload 0, 25, 99), (25, .aload 1, 26, 99), (26, .getfield 103, 29, 99), (29, .putfield 103, 32, 99), (32, .aload 0, 33, 99), (33, .aload 1, 34, 99), (34, .getfield 104, 37, 99), (37, .putfield 104, 40, 99), (40, .aload 0, 41, 99), (41, .aload 1, 42, 99), (42, .getfield 105, 45, 99), (45, .putfield 105, 48, 99), (48, .aload 0, 49, 99), (49, .aload 1, 50, 99), (50, .getfield 106, 53, 99), (53, .putfield 106, 56, 99), (56, .aload 0, 57, 99), (57, .aload 1, 58, 99), (58, .getfield 107, 61, 99), (61, .putfield 107, 64, 99), (64, .aload 0, 65, 99), (65, .aload 1, 66, 99), (66, .getfield 108, 69, 99), (69, .putfield 108, 72, 99), (72, .return_, 73, 99)]
def ac8 : List Instr := [.aload_n 0, .aload_n 1, .getfield 9, .putfield 9, .aload_n 0, .aload_n 1, .getfield 15, .putfield 15, .aload_n 0, .aload_n 1, .getfield 18, .putfield 18, .aload_n 0, .aload_n 1, .getfield 21, .putfield 21, .aload_n 0, .aload_n 1, .getfield 24, .putfield 24, .aload_n 0, .aload_n 1, .getfield 27, .putfield 27, .aload_n 0, .aload_n 1, .getfield 30, .putfield 30, .aload_n 0, .aload_n 1, .getfield 33, .putfield 33, .aload_n 0, .aload_n 1, .getfield 36, .putfield 36, .return_]
-- 9 CoatedBridges$Bridge.takeCrew()V
def pg9 : List AEnt := [(0, .aload 0, 1, 99), (1, .iconst (1), 2, 99), (2, .putfield 105, 5, 99), (5, .aload 0, 6, 99), (6, .dup, 7, 99), (7, .getfield 106, 10, 99), (10, .iconst (1), 11, 99), (11, .iadd, 12, 99), (12, .putfield 106, 15, 99), (15, .return_, 16, 99)]
def ac9 : List Instr := [.aload_n 0, .iconst 1, .putfield 27, .aload_n 0, .dup, .getfield 30, .iconst 1, .iadd, .putfield 30, .return_]
-- 10 CoatedBridges$Bridge.loseCrew()V
def pg10 : List AEnt := [(0, .aload 0, 1, 99), (1, .aload 0, 2, 99), (2, .getfield 104, 5, 99), (5, .ifCond .ne 12, 8, 99), (8, .iconst (2), 9, 99), (9, .goto 13, 12, 99), (12, .iconst (0), 13, 99), (13, .putfield 105, 16, 99), (16, .return_, 17, 99)]
def ac10 : List Instr := [.aload_n 0, .aload_n 0, .getfield 24, .ifCond .ne 7, .iconst 2, .goto 4, .iconst 0, .putfield 27, .return_]
-- 11 CoatedBridges$Bridge.paint(II)V
def pg11 : List AEnt := [(0, .aload 0, 1, 99), (1, .dup, 2, 99), (2, .getfield 108, 5, 99), (5, .iload 2, 6, 99), (6, .iadd, 7, 99), (7, .putfield 108, 10, 99), (10, .aload 0, 11, 99), (11, .aload 0, 12, 99), (12, .getfield 104, 15, 99), (15, .iload 1, 16, 99), (16, .iadd, 17, 99), (17, .iconst (100), 19, 99), (19, .invokestatic 172, 22, 99), (22, .putfield 104, 25, 99), (25, .aload 0, 26, 99), (26, .getfield 104, 29, 99), (29, .iconst (100), 31, 99), (31, .if_icmp .ne 38, 34, 99), (34, .aload 0, 35, 99), (35, .invokevirtual 10, 38, 99), (38, .return_, 39, 99)]
def ac11 : List Instr := [.aload_n 0, .dup, .getfield 36, .iload_n 2, .iadd, .putfield 36, .aload_n 0, .aload_n 0, .getfield 24, .iload_n 1, .iadd, .bipush 100, .invokestatic 39, .putfield 24, .aload_n 0, .getfield 24, .bipush 100, .if_icmp .ne 7, .aload_n 0, .invokevirtual 45, .return_]
-- 12 CoatedBridges$Bridge.wearOff()V
def pg12 : List AEnt := [(0, .aload 0, 1, 99), (1, .aload 0, 2, 99), (2, .getfield 104, 5, 99), (5, .aload 0, 6, 99), (6, .getfield 103, 9, 99), (9, .isub, 10, 99), (10, .iconst (0), 11, 99), (11, .invokestatic 171, 14, 99), (14, .putfield 104, 17, 99), (17, .aload 0, 18, 99), (18, .getfield 104, 21, 99), (21, .ifCond .ne 29, 24, 99), (24, .aload 0, 25, 99), (25, .iconst (2), 26, 99), (26, .putfield 105, 29, 99), (29, .return_, 30, 99)]
def ac12 : List Instr := [.aload_n 0, .aload_n 0, .getfield 24, .aload_n 0, .getfield 21, .isub, .iconst 0, .invokestatic 48, .putfield 24, .aload_n 0, .getfield 24, .ifCond .ne 8, .aload_n 0, .iconst 2, .putfield 27, .return_]
-- 13 CoatedBridges$Bridge.daysUntilRusted()I
def pg13 : List AEnt := [(0, .iconst (0), 1, 99), (1, .istore 1, 2, 99), (2, .iload 1, 3, 2), (3, .iconst (100), 5, 99), (5, .if_icmp .ge 27, 8, 99), (8, .iload 1, 9, 99), (9, .aload 0, 10, 99), (10, .getfield 103, 13, 99), (13, .imul, 14, 99), (14, .aload 0, 15, 99), (15, .getfield 104, 18, 99), (18, .if_icmp .ge 27, 21, 99), (21, .iinc 1 (1), 24, 99), (24, .goto 2, 27, 99), (27, .iload 1, 28, 99), (28, .ireturn, 29, 99)]
def ac13 : List Instr := [.iconst 0, .istore_n 1, .iload_n 1, .bipush 100, .if_icmp .ge 22, .iload_n 1, .aload_n 0, .getfield 21, .imul, .aload_n 0, .getfield 24, .if_icmp .ge 9, .iinc 1 1, .goto (-22), .iload_n 1, .ireturn]
-- 14 CoatedBridges$Island.<init>()V
def pg14 : List AEnt := [(0, .aload 0, 1, 99), (1, .nop, 4, 99), (4, .return_, 5, 99)]
def ac14 : List Instr := [.aload_n 0, .invokespecial 1, .return_]
-- 15 CoatedBridges$Island.begin(I)V
def pg15 : List AEnt := [(0, .aload 0, 1, 99), (1, .iload 1, 2, 99), (2, .putfield 200, 5, 99), (5, .aload 0, 6, 99), (6, .iconst (0), 7, 99), (7, .putfield 201, 10, 99), (10, .aload 0, 11, 99), (11, .iconst (0), 12, 99), (12, .putfield 202, 15, 99), (15, .aload 0, 16, 99), (16, .iconst (0), 17, 99), (17, .putfield 203, 20, 99), (20, .aload 0, 21, 99), (21, .iconst (0), 22, 99), (22, .putfield 204, 25, 99), (25, .return_, 26, 99)]
def ac15 : List Instr := [.aload_n 0, .iload_n 1, .putfield 7, .aload_n 0, .iconst 0, .putfield 13, .aload_n 0, .iconst 0, .putfield 16, .aload_n 0, .iconst 0, .putfield 19, .aload_n 0, .iconst 0, .putfield 22, .return_]
-- 16 CoatedBridges$Island.copyFrom(LCoatedBridges$Island;)V
def pg16 : List AEnt := [(0, .aload 0, 1, 99), (1, .aload 1, 2, 99), (2, .getfield 200, 5, 99), (5, .putfield 200, 8, 99), (8, .aload 0, 9, 99), (9, .aload 1, 10, 99), (10, .getfield 201, 13, 99), (13, .putfield 201, 16, 99), (16, .aload 0, 17, 99), (17, .aload 1, 18, 99), (18, .getfield 202, 21, 99), (21, .putfield 202, 24, 99), (24, .aload 0, 25, 99), (25, .aload 1, 26, 99), (26, .getfield 203, 29, 99), (29, .putfield 203, 32, 99), (32, .aload 0, 33, 99), (33, .aload 1, 34, 99), (34, .getfield 204, 37, 99), (37, .putfield 204, 40, 99), (40, .return_, 41, 99)]
def ac16 : List Instr := [.aload_n 0, .aload_n 1, .getfield 7, .putfield 7, .aload_n 0, .aload_n 1, .getfield 13, .putfield 13, .aload_n 0, .aload_n 1, .getfield 16, .putfield 16, .aload_n 0, .aload_n 1, .getfield 19, .putfield 19, .aload_n 0, .aload_n 1, .getfield 22, .putfield 22, .return_]
-- 17 CoatedBridges$Island.waitAlone(I)Z
def pg17 : List AEnt := [(0, .aload 0, 1, 99), (1, .dup, 2, 99), (2, .getfield 201, 5, 99), (5, .iconst (1), 6, 99), (6, .iadd, 7, 99), (7, .putfield 201, 10, 99), (10, .aload 0, 11, 99), (11, .aload 0, 12, 99), (12, .getfield 202, 15, 99), (15, .aload 0, 16, 99), (16, .getfield 201, 19, 99), (19, .invokestatic 171, 22, 99), (22, .putfield 202, 25, 99), (25, .aload 0, 26, 99), (26, .getfield 201, 29, 99), (29, .iload 1, 30, 99), (30, .if_icmp .gt 35, 33, 99), (33, .iconst (0), 34, 99), (34, .freturn, 35, 99), (35, .aload 0, 36, 99), (36, .dup, 37, 99), (37, .getfield 203, 40, 99), (40, .iconst (1), 41, 99), (41, .iadd, 42, 99), (42, .putfield 203, 45, 99), (45, .iconst (1), 46, 99), (46, .freturn, 47, 99)]
def ac17 : List Instr := [.aload_n 0, .dup, .getfield 13, .iconst 1, .iadd, .putfield 13, .aload_n 0, .aload_n 0, .getfield 16, .aload_n 0, .getfield 13, .invokestatic 25, .putfield 16, .aload_n 0, .getfield 13, .iload_n 1, .if_icmp .gt 5, .iconst 0, .ireturn, .aload_n 0, .dup, .getfield 19, .iconst 1, .iadd, .putfield 19, .iconst 1, .ireturn]
-- 18 CoatedBridges$State.<init>()V
def pg18_0 : List AEnt := [(0, .aload 0, 1, 99), (1, .nop, 4, 99), (4, .aload 0, 5, 99), (5, .iconst (8), 7, 99), (7, .anewarray 13, 10, 99), (10, .putfield 300, 13, 99), (13, .aload 0, 14, 99), (14, .iconst (14), 16, 99), (16, .anewarray 14, 19, 99), (19, .putfield 301, 22, 99), (22, .aload 0, 23, 99), (23, .getstatic 0, 26, 99), (26, .invokedynamic 0, 29, 99), (29, .checkcast 0, 32, 99), (32, .putfield 302, 35, 99), (35, .aload 0, 36, 99), (36, .new 0, 39, 99), (39, .dup, 40, 99), (40, .invokevirtual 0, 43, 99), (43, .putfield 303, 46, 99), (46, .aload 0, 47, 99), (47, .iconst (1), 48, 99), (48, .putfield 304, 51, 99), (51, .aload 0, 52, 99), (52, .iconst (200), 55, 99), (55, .putfield 307, 58, 99), (58, .iconst (0), 59, 99), (59, .istore 1, 60, 99), (60, .iload 1, 61, 2), (61, .iconst (8), 63, 99), (63, .if_icmp .ge 85, 66, 99), (66, .aload 0, 67, 99), (67, .getfield 300, 70, 99), (70, .iload 1, 71, 99), (71, .new 2, 74, 99), (74, .dup, 75, 99), (75, .invokevirtual 14, 78, 99), (78, .multianewarray 13 0, 79, 99), (79, .iinc 1 (1), 82, 99), (82, .goto 60, 85, 99)]
def pg18_1 : List AEnt := [(85, .iconst (0), 86, 99), (86, .istore 1, 87, 99), (87, .iload 1, 88, 2), (88, .iconst (14), 90, 99), (90, .if_icmp .ge 112, 93, 99), (93, .aload 0, 94, 99), (94, .getfield 301, 97, 99), (97, .iload 1, 98, 99), (98, .new 1, 101, 99), (101, .dup, 102, 99), (102, .invokevirtual 6, 105, 99), (105, .multianewarray 14 0, 106, 99), (106, .iinc 1 (1), 109, 99), (109, .goto 87, 112, 99), (112, .return_, 113, 99)]
def pg18 : List AEnt := pg18_0 ++ (pg18_1)
def ac18_0 : List Instr := [.aload_n 0, .invokespecial 3, .aload_n 0, .bipush 8, .anewarray 9, .putfield 11, .aload_n 0, .bipush 14, .anewarray 17, .putfield 19, .aload_n 0, .getstatic 23, .invokevirtual 27, .checkcast 28, .putfield 32, .aload_n 0, .new 35, .dup, .invokespecial 37, .putfield 38, .aload_n 0, .iconst 1, .putfield 42, .aload_n 0, .sipush 200, .putfield 46, .iconst 0, .istore_n 1, .iload_n 1, .bipush 8, .if_icmp .ge 22, .aload_n 0, .getfield 11, .iload_n 1, .new 9, .dup, .invokespecial 49, .aastore, .iinc 1 1, .goto (-22)]
def ac18_1 : List Instr := [.iconst 0, .istore_n 1, .iload_n 1, .bipush 14, .if_icmp .ge 22, .aload_n 0, .getfield 19, .iload_n 1, .new 17, .dup, .invokespecial 50, .aastore, .iinc 1 1, .goto (-22), .return_]
def ac18 : List Instr := ac18_0 ++ (ac18_1)
-- 19 CoatedBridges$State.copyFrom(LCoatedBridges$State;)V
def pg19_0 : List AEnt := [(0, .aload 0, 1, 99), (1, .aload 1, 2, 99), (2, .getfield 304, 5, 99), (5, .putfield 304, 8, 99), (8, .iconst (0), 9, 99), (9, .istore 2, 10, 99), (10, .iload 2, 11, 3), (11, .aload 0, 12, 99), (12, .getfield 304, 15, 99), (15, .if_icmp .ge 39, 18, 99), (18, .aload 0, 19, 99), (19, .getfield 300, 22, 99), (22, .iload 2, 23, 99), (23, .instanceof 13, 24, 99), (24, .aload 1, 25, 99), (25, .getfield 300, 28, 99), (28, .iload 2, 29, 99), (29, .instanceof 13, 30, 99), (30, .invokevirtual 16, 33, 99), (33, .iinc 2 (1), 36, 99), (36, .goto 10, 39, 99), (39, .aload 0, 40, 99), (40, .aload 1, 41, 99), (41, .getfield 305, 44, 99), (44, .putfield 305, 47, 99), (47, .iconst (0), 48, 99), (48, .istore 2, 49, 99), (49, .iload 2, 50, 3), (50, .aload 0, 51, 99), (51, .getfield 305, 54, 99), (54, .if_icmp .ge 78, 57, 99), (57, .aload 0, 58, 99), (58, .getfield 301, 61, 99), (61, .iload 2, 62, 99), (62, .instanceof 14, 63, 99), (63, .aload 1, 64, 99), (64, .getfield 301, 67, 99), (67, .iload 2, 68, 99), (68, .instanceof 14, 69, 99), (69, .invokevirtual 8, 72, 99)]
def pg19_1 : List AEnt := [(72, .iinc 2 (1), 75, 99), (75, .goto 49, 78, 99), (78, .iconst (0), 79, 99), (79, .istore 2, 80, 99), (80, .iload 2, 81, 3), (81, .iconst (8), 83, 99), (83, .if_icmp .ge 104, 86, 99), (86, .aload 0, 87, 99), (87, .getfield 302, 90, 99), (90, .iload 2, 91, 99), (91, .aload 1, 92, 99), (92, .getfield 302, 95, 99), (95, .iload 2, 96, 99), (96, .iaload, 97, 99), (97, .iastore, 98, 99), (98, .iinc 2 (1), 101, 99), (101, .goto 80, 104, 99), (104, .aload 0, 105, 99), (105, .getfield 303, 108, 99), (108, .aload 1, 109, 99), (109, .getfield 303, 112, 99), (112, .invokevirtual 1, 115, 99), (115, .aload 0, 116, 99), (116, .aload 1, 117, 99), (117, .getfield 306, 120, 99), (120, .putfield 306, 123, 99), (123, .aload 0, 124, 99), (124, .aload 1, 125, 99), (125, .getfield 307, 128, 99), (128, .putfield 307, 131, 99), (131, .aload 0, 132, 99), (132, .aload 1, 133, 99), (133, .getfield 308, 136, 99), (136, .putfield 308, 139, 99), (139, .aload 0, 140, 99), (140, .aload 1, 141, 99), (141, .getfield 309, 144, 99), (144, .putfield 309, 147, 99), (147, .aload 0, 148, 99), (148, .aload 1, 149, 99)]
def pg19_2 : List AEnt := [(149, .getfield 310, 152, 99), (152, .putfield 310, 155, 99), (155, .return_, 156, 99)]
def pg19 : List AEnt := pg19_0 ++ (pg19_1 ++ (pg19_2))
def ac19_0 : List Instr := [.aload_n 0, .aload_n 1, .getfield 42, .putfield 42, .iconst 0, .istore_n 2, .iload_n 2, .aload_n 0, .getfield 42, .if_icmp .ge 24, .aload_n 0, .getfield 11, .iload_n 2, .aaload, .aload_n 1, .getfield 11, .iload_n 2, .aaload, .invokevirtual 51, .iinc 2 1, .goto (-26), .aload_n 0, .aload_n 1, .getfield 55, .putfield 55, .iconst 0, .istore_n 2, .iload_n 2, .aload_n 0, .getfield 55, .if_icmp .ge 24, .aload_n 0, .getfield 19, .iload_n 2, .aaload, .aload_n 1, .getfield 19, .iload_n 2, .aaload, .invokevirtual 58]
def ac19_1 : List Instr := [.iinc 2 1, .goto (-26), .iconst 0, .istore_n 2, .iload_n 2, .bipush 8, .if_icmp .ge 21, .aload_n 0, .getfield 32, .iload_n 2, .aload_n 1, .getfield 32, .iload_n 2, .iaload, .iastore, .iinc 2 1, .goto (-21), .aload_n 0, .getfield 38, .aload_n 1, .getfield 38, .invokevirtual 61, .aload_n 0, .aload_n 1, .getfield 64, .putfield 64, .aload_n 0, .aload_n 1, .getfield 46, .putfield 46, .aload_n 0, .aload_n 1, .getfield 67, .putfield 67, .aload_n 0, .aload_n 1, .getfield 70, .putfield 70, .aload_n 0, .aload_n 1]
def ac19_2 : List Instr := [.getfield 73, .putfield 73, .return_]
def ac19 : List Instr := ac19_0 ++ (ac19_1 ++ (ac19_2))
-- 20 CoatedBridges$State.hasIsland(I)Z
def pg20 : List AEnt := [(0, .iload 1, 1, 99), (1, .ifCond .lt 16, 4, 99), (4, .iload 1, 5, 99), (5, .aload 0, 6, 99), (6, .getfield 304, 9, 99), (9, .if_icmp .ge 16, 12, 99), (12, .iconst (1), 13, 99), (13, .goto 17, 16, 99), (16, .iconst (0), 17, 99), (17, .freturn, 18, 99)]
def ac20 : List Instr := [.iload_n 1, .ifCond .lt 15, .iload_n 1, .aload_n 0, .getfield 42, .if_icmp .ge 7, .iconst 1, .goto 4, .iconst 0, .ireturn]
-- 21 CoatedBridges$State.hasBridge(I)Z
def pg21 : List AEnt := [(0, .iload 1, 1, 99), (1, .ifCond .lt 16, 4, 99), (4, .iload 1, 5, 99), (5, .aload 0, 6, 99), (6, .getfield 305, 9, 99), (9, .if_icmp .ge 16, 12, 99), (12, .iconst (1), 13, 99), (13, .goto 17, 16, 99), (16, .iconst (0), 17, 99), (17, .freturn, 18, 99)]
def ac21 : List Instr := [.iload_n 1, .ifCond .lt 15, .iload_n 1, .aload_n 0, .getfield 55, .if_icmp .ge 7, .iconst 1, .goto 4, .iconst 0, .ireturn]
-- 22 CoatedBridges$State.addIsland(I)I
def pg22 : List AEnt := [(0, .iload 1, 1, 99), (1, .ifCond .lt 10, 4, 99), (4, .iload 1, 5, 99), (5, .iconst (99), 7, 99), (7, .if_icmp .le 13, 10, 99), (10, .iconst (-1000001), 12, 99), (12, .ireturn, 13, 99), (13, .aload 0, 14, 99), (14, .getfield 304, 17, 99), (17, .iconst (8), 19, 99), (19, .if_icmp .lt 25, 22, 99), (22, .iconst (-1000003), 24, 99), (24, .ireturn, 25, 99), (25, .aload 0, 26, 99), (26, .getfield 300, 29, 99), (29, .aload 0, 30, 99), (30, .getfield 304, 33, 99), (33, .instanceof 13, 34, 99), (34, .iload 1, 35, 99), (35, .invokevirtual 15, 38, 99), (38, .aload 0, 39, 99), (39, .dup, 40, 99), (40, .getfield 304, 43, 99), (43, .iconst (1), 44, 99), (44, .iadd, 45, 99), (45, .putfield 304, 48, 99), (48, .aload 0, 49, 99), (49, .getfield 304, 52, 99), (52, .iconst (1), 53, 99), (53, .isub, 54, 99), (54, .ireturn, 55, 99)]
def ac22 : List Instr := [.iload_n 1, .ifCond .lt 9, .iload_n 1, .bipush 99, .if_icmp .le 6, .ldc 76, .ireturn, .aload_n 0, .getfield 42, .bipush 8, .if_icmp .lt 6, .ldc 77, .ireturn, .aload_n 0, .getfield 11, .aload_n 0, .getfield 42, .aaload, .iload_n 1, .invokevirtual 78, .aload_n 0, .dup, .getfield 42, .iconst 1, .iadd, .putfield 42, .aload_n 0, .getfield 42, .iconst 1, .isub, .ireturn]
-- 23 CoatedBridges$State.addBridge(III)I
def pg23_0 : List AEnt := [(0, .aload 0, 1, 99), (1, .iload 1, 2, 99), (2, .invokevirtual 20, 5, 99), (5, .ifCond .eq 32, 8, 99), (8, .aload 0, 9, 99), (9, .iload 2, 10, 99), (10, .invokevirtual 20, 13, 99), (13, .ifCond .eq 32, 16, 99), (16, .iload 1, 17, 99), (17, .iload 2, 18, 99), (18, .if_icmp .eq 32, 21, 99), (21, .iload 3, 22, 99), (22, .iconst (1), 23, 99), (23, .if_icmp .lt 32, 26, 99), (26, .iload 3, 27, 99), (27, .iconst (9), 29, 99), (29, .if_icmp .le 35, 32, 99), (32, .iconst (-1000001), 34, 99), (34, .ireturn, 35, 99), (35, .aload 0, 36, 99), (36, .getfield 305, 39, 99), (39, .iconst (14), 41, 99), (41, .if_icmp .lt 47, 44, 99), (44, .iconst (-1000003), 46, 99), (46, .ireturn, 47, 99), (47, .aload 0, 48, 99), (48, .getfield 301, 51, 99), (51, .aload 0, 52, 99), (52, .getfield 305, 55, 99), (55, .instanceof 14, 56, 99), (56, .iload 1, 57, 99), (57, .iload 2, 58, 99), (58, .iload 3, 59, 99), (59, .invokevirtual 7, 62, 99), (62, .aload 0, 63, 99), (63, .dup, 64, 99), (64, .getfield 305, 67, 99), (67, .iconst (1), 68, 99), (68, .iadd, 69, 99), (69, .putfield 305, 72, 99)]
def pg23_1 : List AEnt := [(72, .aload 0, 73, 99), (73, .getfield 305, 76, 99), (76, .iconst (1), 77, 99), (77, .isub, 78, 99), (78, .ireturn, 79, 99)]
def pg23 : List AEnt := pg23_0 ++ (pg23_1)
def ac23_0 : List Instr := [.aload_n 0, .iload_n 1, .invokevirtual 82, .ifCond .eq 27, .aload_n 0, .iload_n 2, .invokevirtual 82, .ifCond .eq 19, .iload_n 1, .iload_n 2, .if_icmp .eq 14, .iload_n 3, .iconst 1, .if_icmp .lt 9, .iload_n 3, .bipush 9, .if_icmp .le 6, .ldc 76, .ireturn, .aload_n 0, .getfield 55, .bipush 14, .if_icmp .lt 6, .ldc 77, .ireturn, .aload_n 0, .getfield 19, .aload_n 0, .getfield 55, .aaload, .iload_n 1, .iload_n 2, .iload_n 3, .invokevirtual 86, .aload_n 0, .dup, .getfield 55, .iconst 1, .iadd, .putfield 55]
def ac23_1 : List Instr := [.aload_n 0, .getfield 55, .iconst 1, .isub, .ireturn]
def ac23 : List Instr := ac23_0 ++ (ac23_1)
-- 24 CoatedBridges$State.sendCrew(II)I
def pg24_0 : List AEnt := [(0, .aload 0, 1, 99), (1, .iload 1, 2, 99), (2, .invokevirtual 21, 5, 99), (5, .ifCond .eq 17, 8, 99), (8, .iload 2, 9, 99), (9, .ifCond .lt 17, 12, 99), (12, .iload 2, 13, 99), (13, .iconst (1), 14, 99), (14, .if_icmp .le 20, 17, 99), (17, .iconst (-1000001), 19, 99), (19, .ireturn, 20, 99), (20, .aload 0, 21, 99), (21, .iload 1, 22, 99), (22, .invokevirtual 36, 25, 99), (25, .istore 3, 26, 99), (26, .iload 2, 27, 99), (27, .iconst (1), 28, 99), (28, .if_icmp .ne 40, 31, 99), (31, .iload 3, 32, 99), (32, .iconst (4), 33, 99), (33, .if_icmp .ne 40, 36, 99), (36, .iconst (1), 37, 99), (37, .goto 41, 40, 99), (40, .iconst (0), 41, 99), (41, .istore 4, 43, 99), (43, .iload 3, 44, 99), (44, .ifCond .eq 55, 47, 99), (47, .iload 4, 49, 99), (49, .ifCond .ne 55, 52, 99), (52, .iconst (-1000002), 54, 99), (54, .ireturn, 55, 99), (55, .aload 0, 56, 99), (56, .iload 1, 57, 99), (57, .invokevirtual 41, 60, 99), (60, .istore 5, 62, 99), (62, .aload 0, 63, 99), (63, .getfield 301, 66, 99), (66, .iload 1, 67, 99), (67, .instanceof 14, 68, 99), (68, .invokevirtual 9, 71, 99)]
def pg24_1 : List AEnt := [(71, .iload 5, 73, 99), (73, .ireturn, 74, 99)]
def pg24 : List AEnt := pg24_0 ++ (pg24_1)
def ac24_0 : List Instr := [.aload_n 0, .iload_n 1, .invokevirtual 89, .ifCond .eq 12, .iload_n 2, .ifCond .lt 8, .iload_n 2, .iconst 1, .if_icmp .le 6, .ldc 76, .ireturn, .aload_n 0, .iload_n 1, .invokevirtual 92, .istore_n 3, .iload_n 2, .iconst 1, .if_icmp .ne 12, .iload_n 3, .iconst 4, .if_icmp .ne 7, .iconst 1, .goto 4, .iconst 0, .istore 4, .iload_n 3, .ifCond .eq 11, .iload 4, .ifCond .ne 6, .ldc 96, .ireturn, .aload_n 0, .iload_n 1, .invokevirtual 97, .istore 5, .aload_n 0, .getfield 19, .iload_n 1, .aaload, .invokevirtual 100]
def ac24_1 : List Instr := [.iload 5, .ireturn]
def ac24 : List Instr := ac24_0 ++ (ac24_1)
-- 25 CoatedBridges$State.callBack(I)I
def pg25 : List AEnt := [(0, .aload 0, 1, 99), (1, .iload 1, 2, 99), (2, .invokevirtual 21, 5, 99), (5, .ifCond .ne 11, 8, 99), (8, .iconst (-1000001), 10, 99), (10, .ireturn, 11, 99), (11, .aload 0, 12, 99), (12, .getfield 301, 15, 99), (15, .iload 1, 16, 99), (16, .instanceof 14, 17, 99), (17, .getfield 105, 20, 99), (20, .iconst (1), 21, 99), (21, .if_icmp .eq 27, 24, 99), (24, .iconst (-1000002), 26, 99), (26, .ireturn, 27, 99), (27, .aload 0, 28, 99), (28, .getfield 301, 31, 99), (31, .iload 1, 32, 99), (32, .instanceof 14, 33, 99), (33, .invokevirtual 10, 36, 99), (36, .aload 0, 37, 99), (37, .getfield 301, 40, 99), (40, .iload 1, 41, 99), (41, .instanceof 14, 42, 99), (42, .getfield 104, 45, 99), (45, .ireturn, 46, 99)]
def ac25 : List Instr := [.aload_n 0, .iload_n 1, .invokevirtual 89, .ifCond .ne 6, .ldc 76, .ireturn, .aload_n 0, .getfield 19, .iload_n 1, .aaload, .getfield 103, .iconst 1, .if_icmp .eq 6, .ldc 96, .ireturn, .aload_n 0, .getfield 19, .iload_n 1, .aaload, .invokevirtual 106, .aload_n 0, .getfield 19, .iload_n 1, .aaload, .getfield 109, .ireturn]
-- 26 CoatedBridges$State.payIn(I)I
def pg26 : List AEnt := [(0, .iload 1, 1, 99), (1, .iconst (1), 2, 99), (2, .if_icmp .lt 12, 5, 99), (5, .iload 1, 6, 99), (6, .iconst (999), 9, 99), (9, .if_icmp .le 15, 12, 99), (12, .iconst (-1000001), 14, 99), (14, .ireturn, 15, 99), (15, .aload 0, 16, 99), (16, .getfield 307, 19, 99), (19, .iload 1, 20, 99), (20, .iadd, 21, 99), (21, .iconst (999999), 23, 99), (23, .if_icmp .le 29, 26, 99), (26, .iconst (-1000003), 28, 99), (28, .ireturn, 29, 99), (29, .aload 0, 30, 99), (30, .iload 1, 31, 99), (31, .invokevirtual 34, 34, 99), (34, .aload 0, 35, 99), (35, .getfield 307, 38, 99), (38, .ireturn, 39, 99)]
def ac26 : List Instr := [.iload_n 1, .iconst 1, .if_icmp .lt 10, .iload_n 1, .sipush 999, .if_icmp .le 6, .ldc 76, .ireturn, .aload_n 0, .getfield 46, .iload_n 1, .iadd, .ldc 112, .if_icmp .le 6, .ldc 77, .ireturn, .aload_n 0, .iload_n 1, .invokevirtual 113, .aload_n 0, .getfield 46, .ireturn]
-- 27 CoatedBridges$State.changeSetting(II)I
def pg27 : List AEnt := [(0, .iload 1, 1, 99), (1, .ifCond .lt 28, 4, 99), (4, .iload 1, 5, 99), (5, .iconst (8), 7, 99), (7, .if_icmp .ge 28, 10, 99), (10, .iload 2, 11, 99), (11, .getstatic 1, 14, 99), (14, .iload 1, 15, 99), (15, .laload, 16, 99), (16, .if_icmp .lt 28, 19, 99), (19, .iload 2, 20, 99), (20, .getstatic 2, 23, 99), (23, .iload 1, 24, 99), (24, .laload, 25, 99), (25, .if_icmp .le 31, 28, 99), (28, .iconst (-1000001), 30, 99), (30, .ireturn, 31, 99), (31, .aload 0, 32, 99), (32, .getfield 302, 35, 99), (35, .iload 1, 36, 99), (36, .iaload, 37, 99), (37, .istore 3, 38, 99), (38, .aload 0, 39, 99), (39, .getfield 302, 42, 99), (42, .iload 1, 43, 99), (43, .iload 2, 44, 99), (44, .iastore, 45, 99), (45, .iload 3, 46, 99), (46, .ireturn, 47, 99)]
def ac27 : List Instr := [.iload_n 1, .ifCond .lt 27, .iload_n 1, .bipush 8, .if_icmp .ge 21, .iload_n 2, .getstatic 116, .iload_n 1, .iaload, .if_icmp .lt 12, .iload_n 2, .getstatic 119, .iload_n 1, .iaload, .if_icmp .le 6, .ldc 76, .ireturn, .aload_n 0, .getfield 32, .iload_n 1, .iaload, .istore_n 3, .aload_n 0, .getfield 32, .iload_n 1, .iload_n 2, .iastore, .iload_n 3, .ireturn]
-- 28 CoatedBridges$State.endDays(I)I
def pg28 : List AEnt := [(0, .iload 1, 1, 99), (1, .iconst (1), 2, 99), (2, .if_icmp .lt 11, 5, 99), (5, .iload 1, 6, 99), (6, .iconst (99), 8, 99), (8, .if_icmp .le 14, 11, 99), (11, .iconst (-1000001), 13, 99), (13, .ireturn, 14, 99), (14, .aload 0, 15, 99), (15, .getfield 306, 18, 99), (18, .iload 1, 19, 99), (19, .iadd, 20, 99), (20, .iconst (9999), 23, 99), (23, .if_icmp .le 29, 26, 99), (26, .iconst (-1000003), 28, 99), (28, .ireturn, 29, 99), (29, .iconst (0), 30, 99), (30, .istore 2, 31, 99), (31, .iconst (0), 32, 99), (32, .istore 3, 33, 99), (33, .iload 3, 34, 4), (34, .iload 1, 35, 99), (35, .if_icmp .ge 51, 38, 99), (38, .iload 2, 39, 99), (39, .aload 0, 40, 99), (40, .invokevirtual 29, 43, 99), (43, .iadd, 44, 99), (44, .istore 2, 45, 99), (45, .iinc 3 (1), 48, 99), (48, .goto 33, 51, 99), (51, .iload 2, 52, 99), (52, .ireturn, 53, 99)]
def ac28 : List Instr := [.iload_n 1, .iconst 1, .if_icmp .lt 9, .iload_n 1, .bipush 99, .if_icmp .le 6, .ldc 76, .ireturn, .aload_n 0, .getfield 64, .iload_n 1, .iadd, .sipush 9999, .if_icmp .le 6, .ldc 77, .ireturn, .iconst 0, .istore_n 2, .iconst 0, .istore_n 3, .iload_n 3, .iload_n 1, .if_icmp .ge 16, .iload_n 2, .aload_n 0, .invokevirtual 122, .iadd, .istore_n 2, .iinc 3 1, .goto (-15), .iload_n 2, .ireturn]
-- 29 CoatedBridges$State.endDay()I
def pg29_0 : List AEnt := [(0, .aload 0, 1, 99), (1, .iconst (0), 2, 99), (2, .invokevirtual 38, 5, 99), (5, .istore 1, 6, 99), (6, .aload 0, 7, 99), (7, .invokevirtual 30, 10, 99), (10, .aload 0, 11, 99), (11, .iload 1, 12, 99), (12, .invokevirtual 31, 15, 99), (15, .aload 0, 16, 99), (16, .invokevirtual 32, 19, 99), (19, .istore 2, 20, 99), (20, .iload 2, 21, 99), (21, .ifCond .le 36, 24, 99), (24, .aload 0, 25, 99), (25, .getfield 303, 28, 99), (28, .aload 0, 29, 99), (29, .getfield 306, 32, 99), (32, .iload 2, 33, 99), (33, .invokevirtual 2, 36, 99), (36, .aload 0, 37, 99), (37, .dup, 38, 99), (38, .getfield 306, 41, 99), (41, .iconst (1), 42, 99), (42, .iadd, 43, 99), (43, .putfield 306, 46, 99), (46, .aload 0, 47, 99), (47, .aload 0, 48, 99), (48, .getfield 302, 51, 99), (51, .iconst (5), 52, 99), (52, .iaload, 53, 99), (53, .invokevirtual 34, 56, 99), (56, .iconst (0), 57, 99), (57, .istore 3, 58, 99), (58, .iload 3, 59, 4), (59, .iconst (4), 60, 99), (60, .if_icmp .ge 108, 63, 99), (63, .aload 0, 64, 99), (64, .getfield 302, 67, 99), (67, .iconst (6), 69, 99)]
def pg29_1 : List AEnt := [(69, .iaload, 70, 99), (70, .iconst (1), 71, 99), (71, .if_icmp .ne 108, 74, 99), (74, .aload 0, 75, 99), (75, .invokevirtual 37, 78, 99), (78, .istore 4, 80, 99), (80, .aload 0, 81, 99), (81, .iload 4, 83, 99), (83, .invokevirtual 21, 86, 99), (86, .ifCond .ne 92, 89, 99), (89, .goto 108, 92, 99), (92, .aload 0, 93, 99), (93, .getfield 301, 96, 99), (96, .iload 4, 98, 99), (98, .instanceof 14, 99, 99), (99, .invokevirtual 9, 102, 99), (102, .iinc 3 (1), 105, 99), (105, .goto 58, 108, 99), (108, .iload 2, 109, 99), (109, .ireturn, 110, 99)]
def pg29 : List AEnt := pg29_0 ++ (pg29_1)
def ac29_0 : List Instr := [.aload_n 0, .iconst 0, .invokevirtual 126, .istore_n 1, .aload_n 0, .invokevirtual 129, .aload_n 0, .iload_n 1, .invokevirtual 132, .aload_n 0, .invokevirtual 135, .istore_n 2, .iload_n 2, .ifCond .le 15, .aload_n 0, .getfield 38, .aload_n 0, .getfield 64, .iload_n 2, .invokevirtual 138, .aload_n 0, .dup, .getfield 64, .iconst 1, .iadd, .putfield 64, .aload_n 0, .aload_n 0, .getfield 32, .iconst 5, .iaload, .invokevirtual 113, .iconst 0, .istore_n 3, .iload_n 3, .iconst 4, .if_icmp .ge 48, .aload_n 0, .getfield 32, .bipush 6]
def ac29_1 : List Instr := [.iaload, .iconst 1, .if_icmp .ne 37, .aload_n 0, .invokevirtual 142, .istore 4, .aload_n 0, .iload 4, .invokevirtual 89, .ifCond .ne 6, .goto 19, .aload_n 0, .getfield 19, .iload 4, .aaload, .invokevirtual 100, .iinc 3 1, .goto (-47), .iload_n 2, .ireturn]
def ac29 : List Instr := ac29_0 ++ (ac29_1)
-- 30 CoatedBridges$State.paintBridges()V
def pg30_0 : List AEnt := [(0, .aload 0, 1, 99), (1, .getfield 302, 4, 99), (4, .iconst (2), 5, 99), (5, .iaload, 6, 99), (6, .istore 1, 7, 99), (7, .iconst (0), 8, 99), (8, .istore 2, 9, 99), (9, .iload 2, 10, 3), (10, .aload 0, 11, 99), (11, .getfield 305, 14, 99), (14, .if_icmp .ge 80, 17, 99), (17, .aload 0, 18, 99), (18, .getfield 301, 21, 99), (21, .iload 2, 22, 99), (22, .instanceof 14, 23, 99), (23, .getfield 105, 26, 99), (26, .iconst (1), 27, 99), (27, .if_icmp .ne 74, 30, 99), (30, .aload 0, 31, 99), (31, .getfield 307, 34, 99), (34, .iload 1, 35, 99), (35, .if_icmp .lt 74, 38, 99), (38, .aload 0, 39, 99), (39, .dup, 40, 99), (40, .getfield 307, 43, 99), (43, .iload 1, 44, 99), (44, .isub, 45, 99), (45, .putfield 307, 48, 99), (48, .aload 0, 49, 99), (49, .dup, 50, 99), (50, .getfield 308, 53, 99), (53, .iload 1, 54, 99), (54, .iadd, 55, 99), (55, .putfield 308, 58, 99), (58, .aload 0, 59, 99), (59, .getfield 301, 62, 99), (62, .iload 2, 63, 99), (63, .instanceof 14, 64, 99), (64, .aload 0, 65, 99), (65, .getfield 302, 68, 99)]
def pg30_1 : List AEnt := [(68, .iconst (1), 69, 99), (69, .iaload, 70, 99), (70, .iload 1, 71, 99), (71, .invokevirtual 11, 74, 99), (74, .iinc 2 (1), 77, 99), (77, .goto 9, 80, 99), (80, .return_, 81, 99)]
def pg30 : List AEnt := pg30_0 ++ (pg30_1)
def ac30_0 : List Instr := [.aload_n 0, .getfield 32, .iconst 2, .iaload, .istore_n 1, .iconst 0, .istore_n 2, .iload_n 2, .aload_n 0, .getfield 55, .if_icmp .ge 66, .aload_n 0, .getfield 19, .iload_n 2, .aaload, .getfield 103, .iconst 1, .if_icmp .ne 47, .aload_n 0, .getfield 46, .iload_n 1, .if_icmp .lt 39, .aload_n 0, .dup, .getfield 46, .iload_n 1, .isub, .putfield 46, .aload_n 0, .dup, .getfield 67, .iload_n 1, .iadd, .putfield 67, .aload_n 0, .getfield 19, .iload_n 2, .aaload, .aload_n 0, .getfield 32]
def ac30_1 : List Instr := [.iconst 1, .iaload, .iload_n 1, .invokevirtual 145, .iinc 2 1, .goto (-68), .return_]
def ac30 : List Instr := ac30_0 ++ (ac30_1)
-- 31 CoatedBridges$State.wearBridges(I)V
def pg31 : List AEnt := [(0, .iconst (0), 1, 99), (1, .istore 2, 2, 99), (2, .iload 2, 3, 3), (3, .aload 0, 4, 99), (4, .getfield 305, 7, 99), (7, .if_icmp .ge 60, 10, 99), (10, .iload 1, 11, 99), (11, .iload 2, 12, 99), (12, .invokestatic 88, 15, 99), (15, .ifCond .eq 27, 18, 99), (18, .aload 0, 19, 99), (19, .getfield 301, 22, 99), (22, .iload 2, 23, 99), (23, .instanceof 14, 24, 99), (24, .invokevirtual 12, 27, 99), (27, .aload 0, 28, 99), (28, .getfield 301, 31, 99), (31, .iload 2, 32, 99), (32, .instanceof 14, 33, 99), (33, .getfield 105, 36, 99), (36, .ifCond .eq 54, 39, 99), (39, .aload 0, 40, 99), (40, .getfield 301, 43, 99), (43, .iload 2, 44, 99), (44, .instanceof 14, 45, 99), (45, .dup, 46, 99), (46, .getfield 107, 49, 99), (49, .iconst (1), 50, 99), (50, .iadd, 51, 99), (51, .putfield 107, 54, 99), (54, .iinc 2 (1), 57, 99), (57, .goto 2, 60, 99), (60, .return_, 61, 99)]
def ac31 : List Instr := [.iconst 0, .istore_n 2, .iload_n 2, .aload_n 0, .getfield 55, .if_icmp .ge 53, .iload_n 1, .iload_n 2, .invokestatic 148, .ifCond .eq 12, .aload_n 0, .getfield 19, .iload_n 2, .aaload, .invokevirtual 152, .aload_n 0, .getfield 19, .iload_n 2, .aaload, .getfield 103, .ifCond .eq 18, .aload_n 0, .getfield 19, .iload_n 2, .aaload, .dup, .getfield 155, .iconst 1, .iadd, .putfield 155, .iinc 2 1, .goto (-55), .return_]
-- 32 CoatedBridges$State.letIslandsWait()I
def pg32_0 : List AEnt := [(0, .aload 0, 1, 99), (1, .iconst (0), 2, 99), (2, .iconst (-1), 3, 99), (3, .invokevirtual 39, 6, 99), (6, .istore 1, 7, 99), (7, .iconst (0), 8, 99), (8, .istore 2, 9, 99), (9, .iconst (1), 10, 99), (10, .istore 3, 11, 99), (11, .iload 3, 12, 4), (12, .aload 0, 13, 99), (13, .getfield 304, 16, 99), (16, .if_icmp .ge 98, 19, 99), (19, .aload 0, 20, 99), (20, .getfield 300, 23, 99), (23, .iload 3, 24, 99), (24, .instanceof 13, 25, 99), (25, .astore 4, 27, 99), (27, .iload 1, 28, 99), (28, .iload 3, 29, 99), (29, .invokestatic 88, 32, 99), (32, .ifCond .eq 44, 35, 99), (35, .aload 4, 37, 99), (37, .iconst (0), 38, 99), (38, .putfield 201, 41, 99), (41, .goto 92, 44, 99), (44, .aload 0, 45, 99), (45, .getfield 302, 48, 99), (48, .iconst (3), 49, 99), (49, .iaload, 50, 99), (50, .iconst (1), 51, 99), (51, .if_icmp .ne 75, 54, 99), (54, .aload 0, 55, 99), (55, .getfield 307, 58, 99), (58, .aload 4, 60, 99), (60, .getfield 200, 63, 99), (63, .if_icmp .lt 75, 66, 99), (66, .aload 0, 67, 99), (67, .aload 4, 69, 99), (69, .invokevirtual 33, 72, 99)]
def pg32_1 : List AEnt := [(72, .goto 92, 75, 99), (75, .aload 4, 77, 99), (77, .aload 0, 78, 99), (78, .getfield 302, 81, 99), (81, .iconst (4), 82, 99), (82, .iaload, 83, 99), (83, .invokevirtual 17, 86, 99), (86, .ifCond .eq 92, 89, 99), (89, .iinc 2 (1), 92, 99), (92, .iinc 3 (1), 95, 99), (95, .goto 11, 98, 99), (98, .iload 2, 99, 99), (99, .ireturn, 100, 99)]
def pg32 : List AEnt := pg32_0 ++ (pg32_1)
def ac32_0 : List Instr := [.aload_n 0, .iconst 0, .iconst (-1), .invokevirtual 158, .istore_n 1, .iconst 0, .istore_n 2, .iconst 1, .istore_n 3, .iload_n 3, .aload_n 0, .getfield 42, .if_icmp .ge 82, .aload_n 0, .getfield 11, .iload_n 3, .aaload, .astore 4, .iload_n 1, .iload_n 3, .invokestatic 148, .ifCond .eq 12, .aload 4, .iconst 0, .putfield 162, .goto 51, .aload_n 0, .getfield 32, .iconst 3, .iaload, .iconst 1, .if_icmp .ne 24, .aload_n 0, .getfield 46, .aload 4, .getfield 165, .if_icmp .lt 12, .aload_n 0, .aload 4, .invokevirtual 168]
def ac32_1 : List Instr := [.goto 20, .aload 4, .aload_n 0, .getfield 32, .iconst 4, .iaload, .invokevirtual 171, .ifCond .eq 6, .iinc 2 1, .iinc 3 1, .goto (-84), .iload_n 2, .ireturn]
def ac32 : List Instr := ac32_0 ++ (ac32_1)
-- 33 CoatedBridges$State.payFerry(LCoatedBridges$Island;)V
def pg33 : List AEnt := [(0, .aload 0, 1, 99), (1, .dup, 2, 99), (2, .getfield 307, 5, 99), (5, .aload 1, 6, 99), (6, .getfield 200, 9, 99), (9, .isub, 10, 99), (10, .putfield 307, 13, 99), (13, .aload 0, 14, 99), (14, .dup, 15, 99), (15, .getfield 309, 18, 99), (18, .aload 1, 19, 99), (19, .getfield 200, 22, 99), (22, .iadd, 23, 99), (23, .putfield 309, 26, 99), (26, .aload 1, 27, 99), (27, .dup, 28, 99), (28, .getfield 204, 31, 99), (31, .iconst (1), 32, 99), (32, .iadd, 33, 99), (33, .putfield 204, 36, 99), (36, .aload 1, 37, 99), (37, .iconst (0), 38, 99), (38, .putfield 201, 41, 99), (41, .return_, 42, 99)]
def ac33 : List Instr := [.aload_n 0, .dup, .getfield 46, .aload_n 1, .getfield 165, .isub, .putfield 46, .aload_n 0, .dup, .getfield 70, .aload_n 1, .getfield 165, .iadd, .putfield 70, .aload_n 1, .dup, .getfield 174, .iconst 1, .iadd, .putfield 174, .aload_n 1, .iconst 0, .putfield 162, .return_]
-- 34 CoatedBridges$State.receive(I)V
def pg34 : List AEnt := [(0, .aload 0, 1, 99), (1, .dup, 2, 99), (2, .getfield 307, 5, 99), (5, .iload 1, 6, 99), (6, .iadd, 7, 99), (7, .putfield 307, 10, 99), (10, .aload 0, 11, 99), (11, .dup, 12, 99), (12, .getfield 310, 15, 99), (15, .iload 1, 16, 99), (16, .iadd, 17, 99), (17, .putfield 310, 20, 99), (20, .return_, 21, 99)]
def ac34 : List Instr := [.aload_n 0, .dup, .getfield 46, .iload_n 1, .iadd, .putfield 46, .aload_n 0, .dup, .getfield 73, .iload_n 1, .iadd, .putfield 73, .return_]
-- 35 CoatedBridges$State.freeCrews()I
def pg35 : List AEnt := [(0, .iconst (0), 1, 99), (1, .aload 0, 2, 99), (2, .getfield 302, 5, 99), (5, .iconst (0), 6, 99), (6, .iaload, 7, 99), (7, .aload 0, 8, 99), (8, .iconst (1), 9, 99), (9, .invokevirtual 38, 12, 99), (12, .invokestatic 170, 15, 99), (15, .isub, 16, 99), (16, .invokestatic 171, 19, 99), (19, .ireturn, 20, 99)]
def ac35 : List Instr := [.iconst 0, .aload_n 0, .getfield 32, .iconst 0, .iaload, .aload_n 0, .iconst 1, .invokevirtual 126, .invokestatic 177, .isub, .invokestatic 182, .ireturn]
-- 36 CoatedBridges$State.reasonAgainst(I)I
def pg36 : List AEnt := [(0, .aload 0, 1, 99), (1, .getfield 301, 4, 99), (4, .iload 1, 5, 99), (5, .instanceof 14, 6, 99), (6, .getfield 105, 9, 99), (9, .iconst (1), 10, 99), (10, .if_icmp .ne 15, 13, 99), (13, .iconst (1), 14, 99), (14, .ireturn, 15, 99), (15, .aload 0, 16, 99), (16, .getfield 301, 19, 99), (19, .iload 1, 20, 99), (20, .instanceof 14, 21, 99), (21, .getfield 104, 24, 99), (24, .iconst (100), 26, 99), (26, .if_icmp .ne 31, 29, 99), (29, .iconst (2), 30, 99), (30, .ireturn, 31, 99), (31, .aload 0, 32, 99), (32, .invokevirtual 35, 35, 99), (35, .ifCond .ne 40, 38, 99), (38, .iconst (3), 39, 99), (39, .ireturn, 40, 99), (40, .aload 0, 41, 99), (41, .iload 1, 42, 99), (42, .invokevirtual 41, 45, 99), (45, .ifCond .ne 52, 48, 99), (48, .iconst (0), 49, 99), (49, .goto 53, 52, 99), (52, .iconst (4), 53, 99), (53, .ireturn, 54, 99)]
def ac36 : List Instr := [.aload_n 0, .getfield 19, .iload_n 1, .aaload, .getfield 103, .iconst 1, .if_icmp .ne 5, .iconst 1, .ireturn, .aload_n 0, .getfield 19, .iload_n 1, .aaload, .getfield 109, .bipush 100, .if_icmp .ne 5, .iconst 2, .ireturn, .aload_n 0, .invokevirtual 187, .ifCond .ne 5, .iconst 3, .ireturn, .aload_n 0, .iload_n 1, .invokevirtual 97, .ifCond .ne 7, .iconst 0, .goto 4, .iconst 4, .ireturn]
-- 37 CoatedBridges$State.bridgeToPaintNext()I
def pg37_0 : List AEnt := [(0, .aload 0, 1, 99), (1, .invokevirtual 35, 4, 99), (4, .ifCond .ne 10, 7, 99), (7, .iconst (-1000004), 9, 99), (9, .ireturn, 10, 99), (10, .aload 0, 11, 99), (11, .iconst (0), 12, 99), (12, .iconst (-1), 13, 99), (13, .invokevirtual 39, 16, 99), (16, .istore 1, 17, 99), (17, .iconst (-1000004), 19, 99), (19, .istore 2, 20, 99), (20, .aload 0, 21, 99), (21, .getfield 302, 24, 99), (24, .iconst (7), 26, 99), (26, .iaload, 27, 99), (27, .iconst (1), 28, 99), (28, .iadd, 29, 99), (29, .istore 3, 30, 99), (30, .iconst (0), 31, 99), (31, .istore 4, 33, 99), (33, .iload 4, 35, 5), (35, .aload 0, 36, 99), (36, .getfield 305, 39, 99), (39, .if_icmp .ge 95, 42, 99), (42, .aload 0, 43, 99), (43, .getfield 301, 46, 99), (46, .iload 4, 48, 99), (48, .instanceof 14, 49, 99), (49, .astore 5, 51, 99), (51, .aload 5, 53, 99), (53, .getfield 105, 56, 99), (56, .iconst (1), 57, 99), (57, .if_icmp .eq 89, 60, 99), (60, .aload 5, 62, 99), (62, .getfield 104, 65, 99), (65, .iload 3, 66, 99), (66, .if_icmp .ge 89, 69, 99), (69, .aload 0, 70, 99), (70, .iconst (0), 71, 99)]
def pg37_1 : List AEnt := [(71, .iload 4, 73, 99), (73, .invokevirtual 39, 76, 99), (76, .iload 1, 77, 99), (77, .if_icmp .ne 89, 80, 99), (80, .aload 5, 82, 99), (82, .getfield 104, 85, 99), (85, .istore 3, 86, 99), (86, .iload 4, 88, 99), (88, .istore 2, 89, 99), (89, .iinc 4 (1), 92, 99), (92, .goto 33, 95, 99), (95, .iload 2, 96, 99), (96, .ireturn, 97, 99)]
def pg37 : List AEnt := pg37_0 ++ (pg37_1)
def ac37_0 : List Instr := [.aload_n 0, .invokevirtual 187, .ifCond .ne 6, .ldc 190, .ireturn, .aload_n 0, .iconst 0, .iconst (-1), .invokevirtual 158, .istore_n 1, .ldc 190, .istore_n 2, .aload_n 0, .getfield 32, .bipush 7, .iaload, .iconst 1, .iadd, .istore_n 3, .iconst 0, .istore 4, .iload 4, .aload_n 0, .getfield 55, .if_icmp .ge 56, .aload_n 0, .getfield 19, .iload 4, .aaload, .astore 5, .aload 5, .getfield 103, .iconst 1, .if_icmp .eq 32, .aload 5, .getfield 109, .iload_n 3, .if_icmp .ge 23, .aload_n 0, .iconst 0]
def ac37_1 : List Instr := [.iload 4, .invokevirtual 158, .iload_n 1, .if_icmp .ne 12, .aload 5, .getfield 109, .istore_n 3, .iload 4, .istore_n 2, .iinc 4 1, .goto (-59), .iload_n 2, .ireturn]
def ac37 : List Instr := ac37_0 ++ (ac37_1)
-- 38 CoatedBridges$State.bridgesThatAre(I)I
def pg38 : List AEnt := [(0, .iconst (0), 1, 99), (1, .istore 2, 2, 99), (2, .iconst (0), 3, 99), (3, .istore 3, 4, 99), (4, .iload 3, 5, 4), (5, .aload 0, 6, 99), (6, .getfield 305, 9, 99), (9, .if_icmp .ge 37, 12, 99), (12, .aload 0, 13, 99), (13, .getfield 301, 16, 99), (16, .iload 3, 17, 99), (17, .instanceof 14, 18, 99), (18, .getfield 105, 21, 99), (21, .iload 1, 22, 99), (22, .if_icmp .ne 31, 25, 99), (25, .iload 2, 26, 99), (26, .iconst (1), 27, 99), (27, .iload 3, 28, 99), (28, .ishl, 29, 99), (29, .ior, 30, 99), (30, .istore 2, 31, 99), (31, .iinc 3 (1), 34, 99), (34, .goto 4, 37, 99), (37, .iload 2, 38, 99), (38, .ireturn, 39, 99)]
def ac38 : List Instr := [.iconst 0, .istore_n 2, .iconst 0, .istore_n 3, .iload_n 3, .aload_n 0, .getfield 55, .if_icmp .ge 28, .aload_n 0, .getfield 19, .iload_n 3, .aaload, .getfield 103, .iload_n 1, .if_icmp .ne 9, .iload_n 2, .iconst 1, .iload_n 3, .ishl, .ior, .istore_n 2, .iinc 3 1, .goto (-30), .iload_n 2, .ireturn]
-- 39 CoatedBridges$State.reachFrom(II)I
def pg39 : List AEnt := [(0, .iconst (1), 1, 99), (1, .iload 1, 2, 99), (2, .ishl, 3, 99), (3, .istore 3, 4, 99), (4, .iconst (0), 5, 99), (5, .istore 4, 7, 99), (7, .iload 4, 9, 5), (9, .iconst (8), 11, 99), (11, .if_icmp .ge 39, 14, 99), (14, .aload 0, 15, 99), (15, .iload 3, 16, 99), (16, .iload 2, 17, 99), (17, .invokevirtual 40, 20, 99), (20, .istore 5, 22, 99), (22, .iload 5, 24, 99), (24, .iload 3, 25, 99), (25, .if_icmp .ne 30, 28, 99), (28, .iload 3, 29, 99), (29, .ireturn, 30, 99), (30, .iload 5, 32, 99), (32, .istore 3, 33, 99), (33, .iinc 4 (1), 36, 99), (36, .goto 7, 39, 99), (39, .iload 3, 40, 99), (40, .ireturn, 41, 99)]
def ac39 : List Instr := [.iconst 1, .iload_n 1, .ishl, .istore_n 3, .iconst 0, .istore 4, .iload 4, .bipush 8, .if_icmp .ge 28, .aload_n 0, .iload_n 3, .iload_n 2, .invokevirtual 191, .istore 5, .iload 5, .iload_n 3, .if_icmp .ne 5, .iload_n 3, .ireturn, .iload 5, .istore_n 3, .iinc 4 1, .goto (-29), .iload_n 3, .ireturn]
-- 40 CoatedBridges$State.oneBridgeOn(II)I
def pg40 : List AEnt := [(0, .iload 1, 1, 99), (1, .istore 3, 2, 99), (2, .iconst (0), 3, 99), (3, .istore 4, 5, 99), (5, .iload 4, 7, 5), (7, .aload 0, 8, 99), (8, .getfield 305, 11, 99), (11, .if_icmp .ge 61, 14, 99), (14, .aload 0, 15, 99), (15, .getfield 301, 18, 99), (18, .iload 4, 20, 99), (20, .instanceof 14, 21, 99), (21, .astore 5, 23, 99), (23, .aload 5, 25, 99), (25, .getfield 105, 28, 99), (28, .ifCond .ne 55, 31, 99), (31, .iload 4, 33, 99), (33, .iload 2, 34, 99), (34, .if_icmp .eq 55, 37, 99), (37, .iload 1, 38, 99), (38, .aload 5, 40, 99), (40, .getfield 102, 43, 99), (43, .iand, 44, 99), (44, .ifCond .eq 55, 47, 99), (47, .iload 3, 48, 99), (48, .aload 5, 50, 99), (50, .getfield 102, 53, 99), (53, .ior, 54, 99), (54, .istore 3, 55, 99), (55, .iinc 4 (1), 58, 99), (58, .goto 5, 61, 99), (61, .iload 3, 62, 99), (62, .ireturn, 63, 99)]
def ac40 : List Instr := [.iload_n 1, .istore_n 3, .iconst 0, .istore 4, .iload 4, .aload_n 0, .getfield 55, .if_icmp .ge 50, .aload_n 0, .getfield 19, .iload 4, .aaload, .astore 5, .aload 5, .getfield 103, .ifCond .ne 27, .iload 4, .iload_n 2, .if_icmp .eq 21, .iload_n 1, .aload 5, .getfield 194, .iand, .ifCond .eq 11, .iload_n 3, .aload 5, .getfield 194, .ior, .istore_n 3, .iinc 4 1, .goto (-53), .iload_n 3, .ireturn]
-- 41 CoatedBridges$State.lostWithout(I)I
def pg41 : List AEnt := [(0, .aload 0, 1, 99), (1, .iconst (0), 2, 99), (2, .iconst (-1), 3, 99), (3, .invokevirtual 39, 6, 99), (6, .aload 0, 7, 99), (7, .iconst (0), 8, 99), (8, .iload 1, 9, 99), (9, .invokevirtual 39, 12, 99), (12, .iconst (-1), 13, 99), (13, .ixor, 14, 99), (14, .iand, 15, 99), (15, .ireturn, 16, 99)]
def ac41 : List Instr := [.aload_n 0, .iconst 0, .iconst (-1), .invokevirtual 158, .aload_n 0, .iconst 0, .iload_n 1, .invokevirtual 158, .iconst (-1), .ixor, .iand, .ireturn]
-- 42 CoatedBridges$State.neededBridges()I
def pg42 : List AEnt := [(0, .aload 0, 1, 99), (1, .iconst (0), 2, 99), (2, .iconst (-1), 3, 99), (3, .invokevirtual 39, 6, 99), (6, .istore 1, 7, 99), (7, .iconst (0), 8, 99), (8, .istore 2, 9, 99), (9, .iconst (0), 10, 99), (10, .istore 3, 11, 99), (11, .iload 3, 12, 4), (12, .aload 0, 13, 99), (13, .getfield 305, 16, 99), (16, .if_icmp .ge 53, 19, 99), (19, .aload 0, 20, 99), (20, .getfield 301, 23, 99), (23, .iload 3, 24, 99), (24, .instanceof 14, 25, 99), (25, .getfield 105, 28, 99), (28, .ifCond .ne 47, 31, 99), (31, .aload 0, 32, 99), (32, .iconst (0), 33, 99), (33, .iload 3, 34, 99), (34, .invokevirtual 39, 37, 99), (37, .iload 1, 38, 99), (38, .if_icmp .eq 47, 41, 99), (41, .iload 2, 42, 99), (42, .iconst (1), 43, 99), (43, .iload 3, 44, 99), (44, .ishl, 45, 99), (45, .ior, 46, 99), (46, .istore 2, 47, 99), (47, .iinc 3 (1), 50, 99), (50, .goto 11, 53, 99), (53, .iload 2, 54, 99), (54, .ireturn, 55, 99)]
def ac42 : List Instr := [.aload_n 0, .iconst 0, .iconst (-1), .invokevirtual 158, .istore_n 1, .iconst 0, .istore_n 2, .iconst 0, .istore_n 3, .iload_n 3, .aload_n 0, .getfield 55, .if_icmp .ge 37, .aload_n 0, .getfield 19, .iload_n 3, .aaload, .getfield 103, .ifCond .ne 19, .aload_n 0, .iconst 0, .iload_n 3, .invokevirtual 158, .iload_n 1, .if_icmp .eq 9, .iload_n 2, .iconst 1, .iload_n 3, .ishl, .ior, .istore_n 2, .iinc 3 1, .goto (-39), .iload_n 2, .ireturn]
-- 43 CoatedBridges$State.bridgesTo(I)I
def pg43 : List AEnt := [(0, .iconst (1), 1, 99), (1, .istore 2, 2, 99), (2, .iconst (0), 3, 99), (3, .istore 3, 4, 99), (4, .iload 3, 5, 4), (5, .iconst (8), 7, 99), (7, .if_icmp .ge 33, 10, 99), (10, .iload 2, 11, 99), (11, .iload 1, 12, 99), (12, .invokestatic 88, 15, 99), (15, .ifCond .eq 20, 18, 99), (18, .iload 3, 19, 99), (19, .ireturn, 20, 99), (20, .aload 0, 21, 99), (21, .iload 2, 22, 99), (22, .iconst (-1), 23, 99), (23, .invokevirtual 40, 26, 99), (26, .istore 2, 27, 99), (27, .iinc 3 (1), 30, 99), (30, .goto 4, 33, 99), (33, .iconst (-1000004), 35, 99), (35, .ireturn, 36, 99)]
def ac43 : List Instr := [.iconst 1, .istore_n 2, .iconst 0, .istore_n 3, .iload_n 3, .bipush 8, .if_icmp .ge 26, .iload_n 2, .iload_n 1, .invokestatic 148, .ifCond .eq 5, .iload_n 3, .ireturn, .aload_n 0, .iload_n 2, .iconst (-1), .invokevirtual 191, .istore_n 2, .iinc 3 1, .goto (-26), .ldc 190, .ireturn]
-- 44 CoatedBridges$State.openBridgesAt(I)I
def pg44 : List AEnt := [(0, .iconst (0), 1, 99), (1, .istore 2, 2, 99), (2, .iconst (0), 3, 99), (3, .istore 3, 4, 99), (4, .iload 3, 5, 4), (5, .aload 0, 6, 99), (6, .getfield 305, 9, 99), (9, .if_icmp .ge 49, 12, 99), (12, .aload 0, 13, 99), (13, .getfield 301, 16, 99), (16, .iload 3, 17, 99), (17, .instanceof 14, 18, 99), (18, .getfield 105, 21, 99), (21, .ifCond .ne 43, 24, 99), (24, .aload 0, 25, 99), (25, .getfield 301, 28, 99), (28, .iload 3, 29, 99), (29, .instanceof 14, 30, 99), (30, .getfield 102, 33, 99), (33, .iload 1, 34, 99), (34, .invokestatic 88, 37, 99), (37, .ifCond .eq 43, 40, 99), (40, .iinc 2 (1), 43, 99), (43, .iinc 3 (1), 46, 99), (46, .goto 4, 49, 99), (49, .iload 2, 50, 99), (50, .ireturn, 51, 99)]
def ac44 : List Instr := [.iconst 0, .istore_n 2, .iconst 0, .istore_n 3, .iload_n 3, .aload_n 0, .getfield 55, .if_icmp .ge 40, .aload_n 0, .getfield 19, .iload_n 3, .aaload, .getfield 103, .ifCond .ne 22, .aload_n 0, .getfield 19, .iload_n 3, .aaload, .getfield 194, .iload_n 1, .invokestatic 148, .ifCond .eq 6, .iinc 2 1, .iinc 3 1, .goto (-42), .iload_n 2, .ireturn]
-- 45 CoatedBridges$State.groups()I
def pg45 : List AEnt := [(0, .iconst (0), 1, 99), (1, .istore 1, 2, 99), (2, .iconst (0), 3, 99), (3, .istore 2, 4, 99), (4, .iconst (0), 5, 99), (5, .istore 3, 6, 99), (6, .iload 3, 7, 4), (7, .aload 0, 8, 99), (8, .getfield 304, 11, 99), (11, .if_icmp .ge 40, 14, 99), (14, .iload 2, 15, 99), (15, .iload 3, 16, 99), (16, .invokestatic 88, 19, 99), (19, .ifCond .ne 34, 22, 99), (22, .iload 2, 23, 99), (23, .aload 0, 24, 99), (24, .iload 3, 25, 99), (25, .iconst (-1), 26, 99), (26, .invokevirtual 39, 29, 99), (29, .ior, 30, 99), (30, .istore 2, 31, 99), (31, .iinc 1 (1), 34, 99), (34, .iinc 3 (1), 37, 99), (37, .goto 6, 40, 99), (40, .iload 1, 41, 99), (41, .ireturn, 42, 99)]
def ac45 : List Instr := [.iconst 0, .istore_n 1, .iconst 0, .istore_n 2, .iconst 0, .istore_n 3, .iload_n 3, .aload_n 0, .getfield 42, .if_icmp .ge 29, .iload_n 2, .iload_n 3, .invokestatic 148, .ifCond .ne 15, .iload_n 2, .aload_n 0, .iload_n 3, .iconst (-1), .invokevirtual 158, .ior, .istore_n 2, .iinc 1 1, .iinc 3 1, .goto (-31), .iload_n 1, .ireturn]
-- 46 CoatedBridges$State.lowestOnes()I
def pg46 : List AEnt := [(0, .iconst (0), 1, 99), (1, .istore 1, 2, 99), (2, .iconst (0), 3, 99), (3, .istore 2, 4, 99), (4, .iload 2, 5, 3), (5, .aload 0, 6, 99), (6, .getfield 304, 9, 99), (9, .if_icmp .ge 34, 12, 99), (12, .aload 0, 13, 99), (13, .iload 2, 14, 99), (14, .iconst (-1), 15, 99), (15, .invokevirtual 39, 18, 99), (18, .invokestatic 89, 21, 99), (21, .iload 2, 22, 99), (22, .if_icmp .ne 28, 25, 99), (25, .iinc 1 (1), 28, 99), (28, .iinc 2 (1), 31, 99), (31, .goto 4, 34, 99), (34, .iload 1, 35, 99), (35, .ireturn, 36, 99)]
def ac46 : List Instr := [.iconst 0, .istore_n 1, .iconst 0, .istore_n 2, .iload_n 2, .aload_n 0, .getfield 42, .if_icmp .ge 25, .aload_n 0, .iload_n 2, .iconst (-1), .invokevirtual 158, .invokestatic 197, .iload_n 2, .if_icmp .ne 6, .iinc 1 1, .iinc 2 1, .goto (-27), .iload_n 1, .ireturn]
-- 47 CoatedBridges$State.coatsTogether()I
def pg47 : List AEnt := [(0, .iconst (0), 1, 99), (1, .istore 1, 2, 99), (2, .iconst (0), 3, 99), (3, .istore 2, 4, 99), (4, .iload 2, 5, 3), (5, .aload 0, 6, 99), (6, .getfield 305, 9, 99), (9, .if_icmp .ge 30, 12, 99), (12, .iload 1, 13, 99), (13, .aload 0, 14, 99), (14, .getfield 301, 17, 99), (17, .iload 2, 18, 99), (18, .instanceof 14, 19, 99), (19, .getfield 104, 22, 99), (22, .iadd, 23, 99), (23, .istore 1, 24, 99), (24, .iinc 2 (1), 27, 99), (27, .goto 4, 30, 99), (30, .iload 1, 31, 99), (31, .ireturn, 32, 99)]
def ac47 : List Instr := [.iconst 0, .istore_n 1, .iconst 0, .istore_n 2, .iload_n 2, .aload_n 0, .getfield 55, .if_icmp .ge 21, .iload_n 1, .aload_n 0, .getfield 19, .iload_n 2, .aaload, .getfield 109, .iadd, .istore_n 1, .iinc 2 1, .goto (-23), .iload_n 1, .ireturn]
-- 48 CoatedBridges$State.complaintsSoFar()I
def pg48 : List AEnt := [(0, .iconst (0), 1, 99), (1, .istore 1, 2, 99), (2, .iconst (0), 3, 99), (3, .istore 2, 4, 99), (4, .iload 2, 5, 3), (5, .aload 0, 6, 99), (6, .getfield 304, 9, 99), (9, .if_icmp .ge 30, 12, 99), (12, .iload 1, 13, 99), (13, .aload 0, 14, 99), (14, .getfield 300, 17, 99), (17, .iload 2, 18, 99), (18, .instanceof 13, 19, 99), (19, .getfield 203, 22, 99), (22, .iadd, 23, 99), (23, .istore 1, 24, 99), (24, .iinc 2 (1), 27, 99), (27, .goto 4, 30, 99), (30, .iload 1, 31, 99), (31, .ireturn, 32, 99)]
def ac48 : List Instr := [.iconst 0, .istore_n 1, .iconst 0, .istore_n 2, .iload_n 2, .aload_n 0, .getfield 42, .if_icmp .ge 21, .iload_n 1, .aload_n 0, .getfield 11, .iload_n 2, .aaload, .getfield 200, .iadd, .istore_n 1, .iinc 2 1, .goto (-23), .iload_n 1, .ireturn]
-- 49 CoatedBridges$State.longestWaitSoFar()I
def pg49 : List AEnt := [(0, .iconst (0), 1, 99), (1, .istore 1, 2, 99), (2, .iconst (0), 3, 99), (3, .istore 2, 4, 99), (4, .iload 2, 5, 3), (5, .aload 0, 6, 99), (6, .getfield 304, 9, 99), (9, .if_icmp .ge 32, 12, 99), (12, .iload 1, 13, 99), (13, .aload 0, 14, 99), (14, .getfield 300, 17, 99), (17, .iload 2, 18, 99), (18, .instanceof 13, 19, 99), (19, .getfield 202, 22, 99), (22, .invokestatic 171, 25, 99), (25, .istore 1, 26, 99), (26, .iinc 2 (1), 29, 99), (29, .goto 4, 32, 99), (32, .iload 1, 33, 99), (33, .ireturn, 34, 99)]
def ac49 : List Instr := [.iconst 0, .istore_n 1, .iconst 0, .istore_n 2, .iload_n 2, .aload_n 0, .getfield 42, .if_icmp .ge 23, .iload_n 1, .aload_n 0, .getfield 11, .iload_n 2, .aaload, .getfield 203, .invokestatic 182, .istore_n 1, .iinc 2 1, .goto (-25), .iload_n 1, .ireturn]
-- 50 CoatedBridges$Text.<init>()V
def pg50 : List AEnt := [(0, .aload 0, 1, 99), (1, .nop, 4, 99), (4, .aload 0, 5, 99), (5, .iconst (60), 7, 99), (7, .newarray .char, 9, 99), (9, .putfield 400, 12, 99), (12, .aload 0, 13, 99), (13, .iconst (3), 14, 99), (14, .newarray .int, 16, 99), (16, .putfield 402, 19, 99), (19, .return_, 20, 99)]
def ac50 : List Instr := [.aload_n 0, .invokespecial 3, .aload_n 0, .bipush 60, .newarray .char, .putfield 9, .aload_n 0, .iconst 3, .newarray .int, .putfield 15, .return_]
-- 51 CoatedBridges$Text.append(C)Z
def pg51 : List AEnt := [(0, .aload 0, 1, 99), (1, .getfield 401, 4, 99), (4, .iconst (60), 6, 99), (6, .if_icmp .lt 11, 9, 99), (9, .iconst (0), 10, 99), (10, .freturn, 11, 99), (11, .aload 0, 12, 99), (12, .getfield 400, 15, 99), (15, .aload 0, 16, 99), (16, .getfield 401, 19, 99), (19, .iload 1, 20, 99), (20, .castore, 21, 99), (21, .aload 0, 22, 99), (22, .dup, 23, 99), (23, .getfield 401, 26, 99), (26, .iconst (1), 27, 99), (27, .iadd, 28, 99), (28, .putfield 401, 31, 99), (31, .iconst (1), 32, 99), (32, .freturn, 33, 99)]
def ac51 : List Instr := [.aload_n 0, .getfield 19, .bipush 60, .if_icmp .lt 5, .iconst 0, .ireturn, .aload_n 0, .getfield 9, .aload_n 0, .getfield 19, .iload_n 1, .castore, .aload_n 0, .dup, .getfield 19, .iconst 1, .iadd, .putfield 19, .iconst 1, .ireturn]
-- 52 CoatedBridges$Text.readOrder(I)Z
def pg52_0 : List AEnt := [(0, .aload 0, 1, 99), (1, .iload 1, 2, 99), (2, .putfield 404, 5, 99), (5, .aload 0, 6, 99), (6, .aload 0, 7, 99), (7, .getfield 400, 10, 99), (10, .aload 0, 11, 99), (11, .getfield 404, 14, 99), (14, .caload, 15, 99), (15, .putfield 403, 18, 99), (18, .aload 0, 19, 99), (19, .getfield 403, 22, 99), (22, .invokestatic 53, 25, 99), (25, .istore 2, 26, 99), (26, .iload 2, 27, 99), (27, .ifCond .ne 32, 30, 99), (30, .iconst (0), 31, 99), (31, .freturn, 32, 99), (32, .aload 0, 33, 99), (33, .dup, 34, 99), (34, .getfield 404, 37, 99), (37, .iconst (1), 38, 99), (38, .iadd, 39, 99), (39, .putfield 404, 42, 99), (42, .iconst (0), 43, 99), (43, .istore 3, 44, 99), (44, .iload 3, 45, 4), (45, .iload 2, 46, 99), (46, .if_icmp .ge 78, 49, 99), (49, .iload 3, 50, 99), (50, .ifCond .le 62, 53, 99), (53, .aload 0, 54, 99), (54, .iconst (44), 56, 99), (56, .invokevirtual 54, 59, 99), (59, .ifCond .eq 70, 62, 99), (62, .aload 0, 63, 99), (63, .iload 3, 64, 99), (64, .invokevirtual 55, 67, 99), (67, .ifCond .ne 72, 70, 99), (70, .iconst (0), 71, 99)]
def pg52_1 : List AEnt := [(71, .freturn, 72, 99), (72, .iinc 3 (1), 75, 99), (75, .goto 44, 78, 99), (78, .aload 0, 79, 99), (79, .iconst (59), 81, 99), (81, .invokevirtual 54, 84, 99), (84, .freturn, 85, 99)]
def pg52 : List AEnt := pg52_0 ++ (pg52_1)
def ac52_0 : List Instr := [.aload_n 0, .iload_n 1, .putfield 23, .aload_n 0, .aload_n 0, .getfield 9, .aload_n 0, .getfield 23, .caload, .putfield 26, .aload_n 0, .getfield 26, .invokestatic 30, .istore_n 2, .iload_n 2, .ifCond .ne 5, .iconst 0, .ireturn, .aload_n 0, .dup, .getfield 23, .iconst 1, .iadd, .putfield 23, .iconst 0, .istore_n 3, .iload_n 3, .iload_n 2, .if_icmp .ge 32, .iload_n 3, .ifCond .le 12, .aload_n 0, .bipush 44, .invokevirtual 34, .ifCond .eq 11, .aload_n 0, .iload_n 3, .invokevirtual 38, .ifCond .ne 5, .iconst 0]
def ac52_1 : List Instr := [.ireturn, .iinc 3 1, .goto (-31), .aload_n 0, .bipush 59, .invokevirtual 34, .ireturn]
def ac52 : List Instr := ac52_0 ++ (ac52_1)
-- 53 CoatedBridges$Text.numbersOf(C)I
def pg53 : List AEnt := [(0, .iload 0, 1, 99), (1, .tableswitch 92 (98) (115) #[88, 92, 90, 92, 90, 92, 92, 90, 92, 92, 92, 92, 92, 92, 90, 92, 90, 90], 88, 99), (88, .iconst (3), 89, 99), (89, .ireturn, 90, 99), (90, .iconst (1), 91, 99), (91, .ireturn, 92, 99), (92, .iconst (0), 93, 99), (93, .ireturn, 94, 99)]
def ac53 : List Instr := [.iload_n 0, .tableswitch 91 98 115 #[87, 91, 89, 91, 89, 91, 91, 89, 91, 91, 91, 91, 91, 91, 89, 91, 89, 89], .iconst 3, .ireturn, .iconst 1, .ireturn, .iconst 0, .ireturn]
-- 54 CoatedBridges$Text.take(C)Z
def pg54 : List AEnt := [(0, .aload 0, 1, 99), (1, .getfield 404, 4, 99), (4, .aload 0, 5, 99), (5, .getfield 401, 8, 99), (8, .if_icmp .ge 24, 11, 99), (11, .aload 0, 12, 99), (12, .getfield 400, 15, 99), (15, .aload 0, 16, 99), (16, .getfield 404, 19, 99), (19, .caload, 20, 99), (20, .iload 1, 21, 99), (21, .if_icmp .eq 26, 24, 99), (24, .iconst (0), 25, 99), (25, .freturn, 26, 99), (26, .aload 0, 27, 99), (27, .dup, 28, 99), (28, .getfield 404, 31, 99), (31, .iconst (1), 32, 99), (32, .iadd, 33, 99), (33, .putfield 404, 36, 99), (36, .iconst (1), 37, 99), (37, .freturn, 38, 99)]
def ac54 : List Instr := [.aload_n 0, .getfield 23, .aload_n 0, .getfield 19, .if_icmp .ge 16, .aload_n 0, .getfield 9, .aload_n 0, .getfield 23, .caload, .iload_n 1, .if_icmp .eq 5, .iconst 0, .ireturn, .aload_n 0, .dup, .getfield 23, .iconst 1, .iadd, .putfield 23, .iconst 1, .ireturn]
-- 55 CoatedBridges$Text.readNumber(I)Z
def pg55_0 : List AEnt := [(0, .iconst (0), 1, 99), (1, .istore 2, 2, 99), (2, .iconst (0), 3, 99), (3, .istore 3, 4, 99), (4, .iload 3, 5, 4), (5, .iconst (3), 6, 99), (6, .if_icmp .ge 50, 9, 99), (9, .aload 0, 10, 99), (10, .invokevirtual 56, 13, 99), (13, .ifCond .eq 50, 16, 99), (16, .iload 2, 17, 99), (17, .iconst (10), 19, 99), (19, .imul, 20, 99), (20, .aload 0, 21, 99), (21, .getfield 400, 24, 99), (24, .aload 0, 25, 99), (25, .getfield 404, 28, 99), (28, .caload, 29, 99), (29, .iconst (48), 31, 99), (31, .isub, 32, 99), (32, .iadd, 33, 99), (33, .istore 2, 34, 99), (34, .aload 0, 35, 99), (35, .dup, 36, 99), (36, .getfield 404, 39, 99), (39, .iconst (1), 40, 99), (40, .iadd, 41, 99), (41, .putfield 404, 44, 99), (44, .iinc 3 (1), 47, 99), (47, .goto 4, 50, 99), (50, .aload 0, 51, 99), (51, .getfield 402, 54, 99), (54, .iload 1, 55, 99), (55, .iload 2, 56, 99), (56, .iastore, 57, 99), (57, .iload 3, 58, 99), (58, .ifCond .le 65, 61, 99), (61, .iconst (1), 62, 99), (62, .goto 66, 65, 99), (65, .iconst (0), 66, 99)]
def pg55_1 : List AEnt := [(66, .freturn, 67, 99)]
def pg55 : List AEnt := pg55_0 ++ (pg55_1)
def ac55_0 : List Instr := [.iconst 0, .istore_n 2, .iconst 0, .istore_n 3, .iload_n 3, .iconst 3, .if_icmp .ge 44, .aload_n 0, .invokevirtual 42, .ifCond .eq 37, .iload_n 2, .bipush 10, .imul, .aload_n 0, .getfield 9, .aload_n 0, .getfield 23, .caload, .bipush 48, .isub, .iadd, .istore_n 2, .aload_n 0, .dup, .getfield 23, .iconst 1, .iadd, .putfield 23, .iinc 3 1, .goto (-43), .aload_n 0, .getfield 15, .iload_n 1, .iload_n 2, .iastore, .iload_n 3, .ifCond .le 7, .iconst 1, .goto 4, .iconst 0]
def ac55_1 : List Instr := [.ireturn]
def ac55 : List Instr := ac55_0 ++ (ac55_1)
-- 56 CoatedBridges$Text.atDigit()Z
def pg56 : List AEnt := [(0, .aload 0, 1, 99), (1, .getfield 404, 4, 99), (4, .aload 0, 5, 99), (5, .getfield 401, 8, 99), (8, .if_icmp .ge 43, 11, 99), (11, .aload 0, 12, 99), (12, .getfield 400, 15, 99), (15, .aload 0, 16, 99), (16, .getfield 404, 19, 99), (19, .caload, 20, 99), (20, .iconst (48), 22, 99), (22, .if_icmp .lt 43, 25, 99), (25, .aload 0, 26, 99), (26, .getfield 400, 29, 99), (29, .aload 0, 30, 99), (30, .getfield 404, 33, 99), (33, .caload, 34, 99), (34, .iconst (57), 36, 99), (36, .if_icmp .gt 43, 39, 99), (39, .iconst (1), 40, 99), (40, .goto 44, 43, 99), (43, .iconst (0), 44, 99), (44, .freturn, 45, 99)]
def ac56 : List Instr := [.aload_n 0, .getfield 23, .aload_n 0, .getfield 19, .if_icmp .ge 35, .aload_n 0, .getfield 9, .aload_n 0, .getfield 23, .caload, .bipush 48, .if_icmp .lt 21, .aload_n 0, .getfield 9, .aload_n 0, .getfield 23, .caload, .bipush 57, .if_icmp .gt 7, .iconst 1, .goto 4, .iconst 0, .ireturn]
-- 57 CoatedBridges.<init>()V
def pg57 : List AEnt := [(0, .aload 0, 1, 99), (1, .nop, 4, 99), (4, .aload 0, 5, 99), (5, .new 3, 8, 99), (8, .dup, 9, 99), (9, .invokevirtual 18, 12, 99), (12, .putfield 500, 15, 99), (15, .aload 0, 16, 99), (16, .new 3, 19, 99), (19, .dup, 20, 99), (20, .invokevirtual 18, 23, 99), (23, .putfield 501, 26, 99), (26, .aload 0, 27, 99), (27, .iconst (4), 28, 99), (28, .anewarray 15, 31, 99), (31, .putfield 502, 34, 99), (34, .aload 0, 35, 99), (35, .new 4, 38, 99), (38, .dup, 39, 99), (39, .invokevirtual 50, 42, 99), (42, .putfield 504, 45, 99), (45, .iconst (0), 46, 99), (46, .istore 1, 47, 99), (47, .iload 1, 48, 2), (48, .iconst (4), 49, 99), (49, .if_icmp .ge 71, 52, 99), (52, .aload 0, 53, 99), (53, .getfield 502, 56, 99), (56, .iload 1, 57, 99), (57, .new 3, 60, 99), (60, .dup, 61, 99), (61, .invokevirtual 18, 64, 99), (64, .multianewarray 15 0, 65, 99), (65, .iinc 1 (1), 68, 99), (68, .goto 47, 71, 99), (71, .return_, 72, 99)]
def ac57 : List Instr := [.aload_n 0, .invokespecial 1, .aload_n 0, .new 7, .dup, .invokespecial 9, .putfield 10, .aload_n 0, .new 7, .dup, .invokespecial 9, .putfield 16, .aload_n 0, .iconst 4, .anewarray 7, .putfield 19, .aload_n 0, .new 23, .dup, .invokespecial 25, .putfield 26, .iconst 0, .istore_n 1, .iload_n 1, .iconst 4, .if_icmp .ge 22, .aload_n 0, .getfield 19, .iload_n 1, .new 7, .dup, .invokespecial 9, .aastore, .iinc 1 1, .goto (-21), .return_]
-- 58 CoatedBridges.island(I)I
def pg58 : List AEnt := [(0, .aload 0, 1, 99), (1, .aload 0, 2, 99), (2, .invokevirtual 82, 5, 99), (5, .iload 1, 6, 99), (6, .invokevirtual 22, 9, 99), (9, .invokevirtual 83, 12, 99), (12, .ireturn, 13, 99)]
def ac58 : List Instr := [.aload_n 0, .aload_n 0, .invokevirtual 30, .iload_n 1, .invokevirtual 34, .invokevirtual 38, .ireturn]
-- 59 CoatedBridges.bridge(III)I
def pg59 : List AEnt := [(0, .aload 0, 1, 99), (1, .aload 0, 2, 99), (2, .invokevirtual 82, 5, 99), (5, .iload 1, 6, 99), (6, .iload 2, 7, 99), (7, .iload 3, 8, 99), (8, .invokevirtual 23, 11, 99), (11, .invokevirtual 83, 14, 99), (14, .ireturn, 15, 99)]
def ac59 : List Instr := [.aload_n 0, .aload_n 0, .invokevirtual 30, .iload_n 1, .iload_n 2, .iload_n 3, .invokevirtual 41, .invokevirtual 38, .ireturn]
-- 60 CoatedBridges.send(II)I
def pg60 : List AEnt := [(0, .aload 0, 1, 99), (1, .aload 0, 2, 99), (2, .invokevirtual 82, 5, 99), (5, .iload 1, 6, 99), (6, .iload 2, 7, 99), (7, .invokevirtual 24, 10, 99), (10, .invokevirtual 83, 13, 99), (13, .ireturn, 14, 99)]
def ac60 : List Instr := [.aload_n 0, .aload_n 0, .invokevirtual 30, .iload_n 1, .iload_n 2, .invokevirtual 45, .invokevirtual 38, .ireturn]
-- 61 CoatedBridges.recall(I)I
def pg61 : List AEnt := [(0, .aload 0, 1, 99), (1, .aload 0, 2, 99), (2, .invokevirtual 82, 5, 99), (5, .iload 1, 6, 99), (6, .invokevirtual 25, 9, 99), (9, .invokevirtual 83, 12, 99), (12, .ireturn, 13, 99)]
def ac61 : List Instr := [.aload_n 0, .aload_n 0, .invokevirtual 30, .iload_n 1, .invokevirtual 49, .invokevirtual 38, .ireturn]
-- 62 CoatedBridges.pay(I)I
def pg62 : List AEnt := [(0, .aload 0, 1, 99), (1, .aload 0, 2, 99), (2, .invokevirtual 82, 5, 99), (5, .iload 1, 6, 99), (6, .invokevirtual 26, 9, 99), (9, .invokevirtual 83, 12, 99), (12, .ireturn, 13, 99)]
def ac62 : List Instr := [.aload_n 0, .aload_n 0, .invokevirtual 30, .iload_n 1, .invokevirtual 52, .invokevirtual 38, .ireturn]
-- 63 CoatedBridges.days(I)I
def pg63 : List AEnt := [(0, .aload 0, 1, 99), (1, .aload 0, 2, 99), (2, .invokevirtual 82, 5, 99), (5, .iload 1, 6, 99), (6, .invokevirtual 28, 9, 99), (9, .invokevirtual 83, 12, 99), (12, .ireturn, 13, 99)]
def ac63 : List Instr := [.aload_n 0, .aload_n 0, .invokevirtual 30, .iload_n 1, .invokevirtual 55, .invokevirtual 38, .ireturn]
-- 64 CoatedBridges.set(II)I
def pg64 : List AEnt := [(0, .aload 0, 1, 99), (1, .aload 0, 2, 99), (2, .invokevirtual 82, 5, 99), (5, .iload 1, 6, 99), (6, .iload 2, 7, 99), (7, .invokevirtual 27, 10, 99), (10, .invokevirtual 83, 13, 99), (13, .ireturn, 14, 99)]
def ac64 : List Instr := [.aload_n 0, .aload_n 0, .invokevirtual 30, .iload_n 1, .iload_n 2, .invokevirtual 58, .invokevirtual 38, .ireturn]
-- 65 CoatedBridges.bridgeOf(II)I
def pg65_0 : List AEnt := [(0, .aload 0, 1, 99), (1, .getfield 500, 4, 99), (4, .iload 1, 5, 99), (5, .invokevirtual 21, 8, 99), (8, .ifCond .ne 14, 11, 99), (11, .iconst (-1000001), 13, 99), (13, .ireturn, 14, 99), (14, .aload 0, 15, 99), (15, .getfield 500, 18, 99), (18, .getfield 301, 21, 99), (21, .iload 1, 22, 99), (22, .instanceof 14, 23, 99), (23, .astore 3, 24, 99), (24, .iload 2, 25, 99), (25, .tableswitch 136 (0) (8) #[76, 81, 86, 91, 96, 101, 106, 111, 116], 76, 99), (76, .aload 3, 77, 99), (77, .getfield 100, 80, 99), (80, .ireturn, 81, 99), (81, .aload 3, 82, 99), (82, .getfield 101, 85, 99), (85, .ireturn, 86, 99), (86, .aload 3, 87, 99), (87, .getfield 103, 90, 99), (90, .ireturn, 91, 99), (91, .aload 3, 92, 99), (92, .getfield 104, 95, 99), (95, .ireturn, 96, 99), (96, .aload 3, 97, 99), (97, .getfield 105, 100, 99), (100, .ireturn, 101, 99), (101, .aload 3, 102, 99), (102, .getfield 106, 105, 99), (105, .ireturn, 106, 99), (106, .aload 3, 107, 99), (107, .getfield 107, 110, 99), (110, .ireturn, 111, 99), (111, .aload 3, 112, 99), (112, .getfield 108, 115, 99), (115, .ireturn, 116, 99), (116, .aload 0, 117, 99)]
def pg65_1 : List AEnt := [(117, .getfield 500, 120, 99), (120, .invokevirtual 42, 123, 99), (123, .iload 1, 124, 99), (124, .invokestatic 88, 127, 99), (127, .ifCond .eq 134, 130, 99), (130, .iconst (1), 131, 99), (131, .goto 135, 134, 99), (134, .iconst (0), 135, 99), (135, .ireturn, 136, 99), (136, .iconst (-1000001), 138, 99), (138, .ireturn, 139, 99)]
def pg65 : List AEnt := pg65_0 ++ (pg65_1)
def ac65_0 : List Instr := [.aload_n 0, .getfield 10, .iload_n 1, .invokevirtual 61, .ifCond .ne 6, .ldc 65, .ireturn, .aload_n 0, .getfield 10, .getfield 66, .iload_n 1, .aaload, .astore_n 3, .iload_n 2, .tableswitch 111 0 8 #[51, 56, 61, 66, 71, 76, 81, 86, 91], .aload_n 3, .getfield 70, .ireturn, .aload_n 3, .getfield 76, .ireturn, .aload_n 3, .getfield 79, .ireturn, .aload_n 3, .getfield 82, .ireturn, .aload_n 3, .getfield 85, .ireturn, .aload_n 3, .getfield 88, .ireturn, .aload_n 3, .getfield 91, .ireturn, .aload_n 3, .getfield 94, .ireturn, .aload_n 0]
def ac65_1 : List Instr := [.getfield 10, .invokevirtual 97, .iload_n 1, .invokestatic 101, .ifCond .eq 7, .iconst 1, .goto 4, .iconst 0, .ireturn, .ldc 65, .ireturn]
def ac65 : List Instr := ac65_0 ++ (ac65_1)
-- 66 CoatedBridges.islandOf(II)I
def pg66_0 : List AEnt := [(0, .aload 0, 1, 99), (1, .getfield 500, 4, 99), (4, .iload 1, 5, 99), (5, .invokevirtual 20, 8, 99), (8, .ifCond .ne 14, 11, 99), (11, .iconst (-1000001), 13, 99), (13, .ireturn, 14, 99), (14, .aload 0, 15, 99), (15, .getfield 500, 18, 99), (18, .getfield 300, 21, 99), (21, .iload 1, 22, 99), (22, .instanceof 13, 23, 99), (23, .astore 3, 24, 99), (24, .iload 2, 25, 99), (25, .tableswitch 137 (0) (7) #[72, 94, 99, 104, 109, 114, 119, 128], 72, 99), (72, .aload 0, 73, 99), (73, .getfield 500, 76, 99), (76, .iconst (0), 77, 99), (77, .iconst (-1), 78, 99), (78, .invokevirtual 39, 81, 99), (81, .iload 1, 82, 99), (82, .invokestatic 88, 85, 99), (85, .ifCond .eq 92, 88, 99), (88, .iconst (1), 89, 99), (89, .goto 93, 92, 99), (92, .iconst (0), 93, 99), (93, .ireturn, 94, 99), (94, .aload 3, 95, 99), (95, .getfield 201, 98, 99), (98, .ireturn, 99, 99), (99, .aload 3, 100, 99), (100, .getfield 200, 103, 99), (103, .ireturn, 104, 99), (104, .aload 3, 105, 99), (105, .getfield 203, 108, 99), (108, .ireturn, 109, 99), (109, .aload 3, 110, 99), (110, .getfield 202, 113, 99), (113, .ireturn, 114, 99), (114, .aload 3, 115, 99)]
def pg66_1 : List AEnt := [(115, .getfield 204, 118, 99), (118, .ireturn, 119, 99), (119, .aload 0, 120, 99), (120, .getfield 500, 123, 99), (123, .iload 1, 124, 99), (124, .invokevirtual 44, 127, 99), (127, .ireturn, 128, 99), (128, .aload 0, 129, 99), (129, .getfield 500, 132, 99), (132, .iload 1, 133, 99), (133, .invokevirtual 43, 136, 99), (136, .ireturn, 137, 99), (137, .iconst (-1000001), 139, 99), (139, .ireturn, 140, 99)]
def pg66 : List AEnt := pg66_0 ++ (pg66_1)
def ac66_0 : List Instr := [.aload_n 0, .getfield 10, .iload_n 1, .invokevirtual 105, .ifCond .ne 6, .ldc 65, .ireturn, .aload_n 0, .getfield 10, .getfield 108, .iload_n 1, .aaload, .astore_n 3, .iload_n 2, .tableswitch 112 0 7 #[47, 69, 74, 79, 84, 89, 94, 103], .aload_n 0, .getfield 10, .iconst 0, .iconst (-1), .invokevirtual 112, .iload_n 1, .invokestatic 101, .ifCond .eq 7, .iconst 1, .goto 4, .iconst 0, .ireturn, .aload_n 3, .getfield 115, .ireturn, .aload_n 3, .getfield 120, .ireturn, .aload_n 3, .getfield 123, .ireturn, .aload_n 3, .getfield 126, .ireturn, .aload_n 3]
def ac66_1 : List Instr := [.getfield 129, .ireturn, .aload_n 0, .getfield 10, .iload_n 1, .invokevirtual 132, .ireturn, .aload_n 0, .getfield 10, .iload_n 1, .invokevirtual 135, .ireturn, .ldc 65, .ireturn]
def ac66 : List Instr := ac66_0 ++ (ac66_1)
-- 67 CoatedBridges.reach(I)I
def pg67 : List AEnt := [(0, .aload 0, 1, 99), (1, .getfield 500, 4, 99), (4, .iload 1, 5, 99), (5, .invokevirtual 20, 8, 99), (8, .ifCond .eq 23, 11, 99), (11, .aload 0, 12, 99), (12, .getfield 500, 15, 99), (15, .iload 1, 16, 99), (16, .iconst (-1), 17, 99), (17, .invokevirtual 39, 20, 99), (20, .goto 25, 23, 99), (23, .iconst (-1000001), 25, 99), (25, .ireturn, 26, 99)]
def ac67 : List Instr := [.aload_n 0, .getfield 10, .iload_n 1, .invokevirtual 105, .ifCond .eq 15, .aload_n 0, .getfield 10, .iload_n 1, .iconst (-1), .invokevirtual 112, .goto 5, .ldc 65, .ireturn]
-- 68 CoatedBridges.book(II)I
def pg68 : List AEnt := [(0, .iload 1, 1, 99), (1, .ifCond .lt 13, 4, 99), (4, .iload 2, 5, 99), (5, .ifCond .lt 13, 8, 99), (8, .iload 2, 9, 99), (9, .iconst (1), 10, 99), (10, .if_icmp .le 16, 13, 99), (13, .iconst (-1000001), 15, 99), (15, .ireturn, 16, 99), (16, .iload 2, 17, 99), (17, .ifCond .ne 34, 20, 99), (20, .aload 0, 21, 99), (21, .getfield 500, 24, 99), (24, .getfield 303, 27, 99), (27, .iload 1, 28, 99), (28, .invokevirtual 4, 31, 99), (31, .goto 45, 34, 99), (34, .aload 0, 35, 99), (35, .getfield 500, 38, 99), (38, .getfield 303, 41, 99), (41, .iload 1, 42, 99), (42, .invokevirtual 5, 45, 99), (45, .ireturn, 46, 99)]
def ac68 : List Instr := [.iload_n 1, .ifCond .lt 12, .iload_n 2, .ifCond .lt 8, .iload_n 2, .iconst 1, .if_icmp .le 6, .ldc 65, .ireturn, .iload_n 2, .ifCond .ne 17, .aload_n 0, .getfield 10, .getfield 138, .iload_n 1, .invokevirtual 142, .goto 14, .aload_n 0, .getfield 10, .getfield 138, .iload_n 1, .invokevirtual 147, .ireturn]
-- 69 CoatedBridges.why(II)I
def pg69 : List AEnt := [(0, .aload 0, 1, 99), (1, .getfield 500, 4, 99), (4, .iload 1, 5, 99), (5, .invokevirtual 21, 8, 99), (8, .ifCond .eq 20, 11, 99), (11, .iload 2, 12, 99), (12, .ifCond .lt 20, 15, 99), (15, .iload 2, 16, 99), (16, .iconst (1), 17, 99), (17, .if_icmp .le 23, 20, 99), (20, .iconst (-1000001), 22, 99), (22, .ireturn, 23, 99), (23, .aload 0, 24, 99), (24, .getfield 500, 27, 99), (27, .iload 1, 28, 99), (28, .invokevirtual 36, 31, 99), (31, .istore 3, 32, 99), (32, .iload 2, 33, 99), (33, .ifCond .ne 38, 36, 99), (36, .iload 3, 37, 99), (37, .ireturn, 38, 99), (38, .iload 3, 39, 99), (39, .iconst (4), 40, 99), (40, .if_icmp .ne 57, 43, 99), (43, .aload 0, 44, 99), (44, .getfield 500, 47, 99), (47, .iload 1, 48, 99), (48, .invokevirtual 41, 51, 99), (51, .invokestatic 89, 54, 99), (54, .goto 59, 57, 99), (57, .iconst (-1000004), 59, 99), (59, .ireturn, 60, 99)]
def ac69 : List Instr := [.aload_n 0, .getfield 10, .iload_n 1, .invokevirtual 61, .ifCond .eq 12, .iload_n 2, .ifCond .lt 8, .iload_n 2, .iconst 1, .if_icmp .le 6, .ldc 65, .ireturn, .aload_n 0, .getfield 10, .iload_n 1, .invokevirtual 150, .istore_n 3, .iload_n 2, .ifCond .ne 5, .iload_n 3, .ireturn, .iload_n 3, .iconst 4, .if_icmp .ne 17, .aload_n 0, .getfield 10, .iload_n 1, .invokevirtual 153, .invokestatic 156, .goto 5, .ldc 159, .ireturn]
-- 70 CoatedBridges.best()I
def pg70 : List AEnt := [(0, .aload 0, 1, 99), (1, .getfield 500, 4, 99), (4, .invokevirtual 37, 7, 99), (7, .ireturn, 8, 99)]
def ac70 : List Instr := [.aload_n 0, .getfield 10, .invokevirtual 160, .ireturn]
-- 71 CoatedBridges.rustsIn(I)I
def pg71 : List AEnt := [(0, .aload 0, 1, 99), (1, .getfield 500, 4, 99), (4, .iload 1, 5, 99), (5, .invokevirtual 21, 8, 99), (8, .ifCond .ne 14, 11, 99), (11, .iconst (-1000001), 13, 99), (13, .ireturn, 14, 99), (14, .aload 0, 15, 99), (15, .getfield 500, 18, 99), (18, .getfield 301, 21, 99), (21, .iload 1, 22, 99), (22, .instanceof 14, 23, 99), (23, .astore 2, 24, 99), (24, .aload 2, 25, 99), (25, .getfield 105, 28, 99), (28, .iconst (1), 29, 99), (29, .if_icmp .ne 37, 32, 99), (32, .iconst (-1000002), 34, 99), (34, .goto 41, 37, 99), (37, .aload 2, 38, 99), (38, .invokevirtual 13, 41, 99), (41, .ireturn, 42, 99)]
def ac71 : List Instr := [.aload_n 0, .getfield 10, .iload_n 1, .invokevirtual 61, .ifCond .ne 6, .ldc 65, .ireturn, .aload_n 0, .getfield 10, .getfield 66, .iload_n 1, .aaload, .astore_n 2, .aload_n 2, .getfield 85, .iconst 1, .if_icmp .ne 8, .ldc 163, .goto 7, .aload_n 2, .invokevirtual 164, .ireturn]
-- 72 CoatedBridges.paintedIn(I)I
def pg72 : List AEnt := [(0, .aload 0, 1, 99), (1, .getfield 500, 4, 99), (4, .iload 1, 5, 99), (5, .invokevirtual 21, 8, 99), (8, .ifCond .ne 14, 11, 99), (11, .iconst (-1000001), 13, 99), (13, .ireturn, 14, 99), (14, .aload 0, 15, 99), (15, .getfield 500, 18, 99), (18, .getfield 301, 21, 99), (21, .iload 1, 22, 99), (22, .instanceof 14, 23, 99), (23, .getfield 105, 26, 99), (26, .iconst (1), 27, 99), (27, .if_icmp .eq 33, 30, 99), (30, .iconst (-1000002), 32, 99), (32, .ireturn, 33, 99), (33, .aload 0, 34, 99), (34, .invokevirtual 82, 37, 99), (37, .astore 2, 38, 99), (38, .iconst (1), 39, 99), (39, .istore 3, 40, 99), (40, .iload 3, 41, 4), (41, .iconst (200), 44, 99), (44, .if_icmp .gt 72, 47, 99), (47, .aload 2, 48, 99), (48, .invokevirtual 29, 51, 99), (51, .pop, 52, 99), (52, .aload 2, 53, 99), (53, .getfield 301, 56, 99), (56, .iload 1, 57, 99), (57, .instanceof 14, 58, 99), (58, .getfield 105, 61, 99), (61, .ifCond .ne 66, 64, 99), (64, .iload 3, 65, 99), (65, .ireturn, 66, 99), (66, .iinc 3 (1), 69, 99), (69, .goto 40, 72, 99), (72, .iconst (-1000004), 74, 99), (74, .ireturn, 75, 99)]
def ac72 : List Instr := [.aload_n 0, .getfield 10, .iload_n 1, .invokevirtual 61, .ifCond .ne 6, .ldc 65, .ireturn, .aload_n 0, .getfield 10, .getfield 66, .iload_n 1, .aaload, .getfield 85, .iconst 1, .if_icmp .eq 6, .ldc 163, .ireturn, .aload_n 0, .invokevirtual 30, .astore_n 2, .iconst 1, .istore_n 3, .iload_n 3, .sipush 200, .if_icmp .gt 28, .aload_n 2, .invokevirtual 167, .pop, .aload_n 2, .getfield 66, .iload_n 1, .aaload, .getfield 85, .ifCond .ne 5, .iload_n 3, .ireturn, .iinc 3 1, .goto (-29), .ldc 159, .ireturn]
-- 73 CoatedBridges.aloneIn()I
def pg73 : List AEnt := [(0, .aload 0, 1, 99), (1, .getfield 500, 4, 99), (4, .iconst (0), 5, 99), (5, .iconst (-1), 6, 99), (6, .invokevirtual 39, 9, 99), (9, .istore 1, 10, 99), (10, .aload 0, 11, 99), (11, .invokevirtual 82, 14, 99), (14, .astore 2, 15, 99), (15, .iconst (1), 16, 99), (16, .istore 3, 17, 99), (17, .iload 3, 18, 4), (18, .iconst (200), 21, 99), (21, .if_icmp .gt 50, 24, 99), (24, .aload 2, 25, 99), (25, .invokevirtual 29, 28, 99), (28, .pop, 29, 99), (29, .iload 1, 30, 99), (30, .aload 2, 31, 99), (31, .iconst (0), 32, 99), (32, .iconst (-1), 33, 99), (33, .invokevirtual 39, 36, 99), (36, .iconst (-1), 37, 99), (37, .ixor, 38, 99), (38, .iand, 39, 99), (39, .ifCond .eq 44, 42, 99), (42, .iload 3, 43, 99), (43, .ireturn, 44, 99), (44, .iinc 3 (1), 47, 99), (47, .goto 17, 50, 99), (50, .iconst (-1000004), 52, 99), (52, .ireturn, 53, 99)]
def ac73 : List Instr := [.aload_n 0, .getfield 10, .iconst 0, .iconst (-1), .invokevirtual 112, .istore_n 1, .aload_n 0, .invokevirtual 30, .astore_n 2, .iconst 1, .istore_n 3, .iload_n 3, .sipush 200, .if_icmp .gt 29, .aload_n 2, .invokevirtual 167, .pop, .iload_n 1, .aload_n 2, .iconst 0, .iconst (-1), .invokevirtual 112, .iconst (-1), .ixor, .iand, .ifCond .eq 5, .iload_n 3, .ireturn, .iinc 3 1, .goto (-30), .ldc 159, .ireturn]
-- 74 CoatedBridges.ifDays(I)I
def pg74 : List AEnt := [(0, .iload 1, 1, 99), (1, .iconst (1), 2, 99), (2, .if_icmp .lt 11, 5, 99), (5, .iload 1, 6, 99), (6, .iconst (99), 8, 99), (8, .if_icmp .le 14, 11, 99), (11, .iconst (-1000001), 13, 99), (13, .ireturn, 14, 99), (14, .aload 0, 15, 99), (15, .invokevirtual 82, 18, 99), (18, .astore 2, 19, 99), (19, .iconst (0), 20, 99), (20, .istore 3, 21, 99), (21, .iconst (0), 22, 99), (22, .istore 4, 24, 99), (24, .iload 4, 26, 5), (26, .iload 1, 27, 99), (27, .if_icmp .ge 43, 30, 99), (30, .iload 3, 31, 99), (31, .aload 2, 32, 99), (32, .invokevirtual 29, 35, 99), (35, .iadd, 36, 99), (36, .istore 3, 37, 99), (37, .iinc 4 (1), 40, 99), (40, .goto 24, 43, 99), (43, .iload 3, 44, 99), (44, .ireturn, 45, 99)]
def ac74 : List Instr := [.iload_n 1, .iconst 1, .if_icmp .lt 9, .iload_n 1, .bipush 99, .if_icmp .le 6, .ldc 65, .ireturn, .aload_n 0, .invokevirtual 30, .astore_n 2, .iconst 0, .istore_n 3, .iconst 0, .istore 4, .iload 4, .iload_n 1, .if_icmp .ge 16, .iload_n 3, .aload_n 2, .invokevirtual 167, .iadd, .istore_n 3, .iinc 4 1, .goto (-16), .iload_n 3, .ireturn]
-- 75 CoatedBridges.mean()I
def pg75 : List AEnt := [(0, .aload 0, 1, 99), (1, .getfield 500, 4, 99), (4, .getfield 305, 7, 99), (7, .ifCond .ne 13, 10, 99), (10, .iconst (-1000004), 12, 99), (12, .ireturn, 13, 99), (13, .aload 0, 14, 99), (14, .getfield 500, 17, 99), (17, .invokevirtual 47, 20, 99), (20, .i2f, 21, 99), (21, .aload 0, 22, 99), (22, .getfield 500, 25, 99), (25, .getfield 305, 28, 99), (28, .i2f, 29, 99), (29, .fdiv, 30, 99), (30, .invokestatic 90, 33, 99), (33, .ireturn, 34, 99)]
def ac75 : List Instr := [.aload_n 0, .getfield 10, .getfield 170, .ifCond .ne 6, .ldc 159, .ireturn, .aload_n 0, .getfield 10, .invokevirtual 173, .i2f, .aload_n 0, .getfield 10, .getfield 170, .i2f, .fdiv, .invokestatic 176, .ireturn]
-- 76 CoatedBridges.count(I)I
def pg76_0 : List AEnt := [(0, .iload 1, 1, 99), (1, .ifCond .lt 10, 4, 99), (4, .iload 1, 5, 99), (5, .iconst (28), 7, 99), (7, .if_icmp .lt 13, 10, 99), (10, .iconst (-1000001), 12, 99), (12, .ireturn, 13, 99), (13, .iload 1, 14, 99), (14, .iconst (20), 16, 99), (16, .if_icmp .lt 32, 19, 99), (19, .aload 0, 20, 99), (20, .getfield 500, 23, 99), (23, .getfield 302, 26, 99), (26, .iload 1, 27, 99), (27, .iconst (20), 29, 99), (29, .isub, 30, 99), (30, .iaload, 31, 99), (31, .ireturn, 32, 99), (32, .iload 1, 33, 99), (33, .tableswitch 281 (0) (18) #[124, 132, 140, 148, 158, 167, 176, 185, 193, 201, 209, 217, 225, 233, 241, 249, 257, 265, 276], 124, 99), (124, .aload 0, 125, 99), (125, .getfield 500, 128, 99), (128, .getfield 306, 131, 99), (131, .ireturn, 132, 99), (132, .aload 0, 133, 99), (133, .getfield 500, 136, 99), (136, .getfield 304, 139, 99), (139, .ireturn, 140, 99), (140, .aload 0, 141, 99), (141, .getfield 500, 144, 99), (144, .getfield 305, 147, 99), (147, .ireturn, 148, 99), (148, .aload 0, 149, 99), (149, .getfield 500, 152, 99), (152, .iconst (0), 153, 99), (153, .iconst (-1), 154, 99), (154, .invokevirtual 39, 157, 99), (157, .ireturn, 158, 99), (158, .aload 0, 159, 99), (159, .getfield 500, 162, 99)]
def pg76_1 : List AEnt := [(162, .iconst (0), 163, 99), (163, .invokevirtual 38, 166, 99), (166, .ireturn, 167, 99), (167, .aload 0, 168, 99), (168, .getfield 500, 171, 99), (171, .iconst (1), 172, 99), (172, .invokevirtual 38, 175, 99), (175, .ireturn, 176, 99), (176, .aload 0, 177, 99), (177, .getfield 500, 180, 99), (180, .iconst (2), 181, 99), (181, .invokevirtual 38, 184, 99), (184, .ireturn, 185, 99), (185, .aload 0, 186, 99), (186, .getfield 500, 189, 99), (189, .invokevirtual 42, 192, 99), (192, .ireturn, 193, 99), (193, .aload 0, 194, 99), (194, .getfield 500, 197, 99), (197, .invokevirtual 45, 200, 99), (200, .ireturn, 201, 99), (201, .aload 0, 202, 99), (202, .getfield 500, 205, 99), (205, .invokevirtual 46, 208, 99), (208, .ireturn, 209, 99), (209, .aload 0, 210, 99), (210, .getfield 500, 213, 99), (213, .invokevirtual 35, 216, 99), (216, .ireturn, 217, 99), (217, .aload 0, 218, 99), (218, .getfield 500, 221, 99), (221, .invokevirtual 48, 224, 99), (224, .ireturn, 225, 99), (225, .aload 0, 226, 99), (226, .getfield 500, 229, 99), (229, .invokevirtual 49, 232, 99), (232, .ireturn, 233, 99), (233, .aload 0, 234, 99), (234, .getfield 500, 237, 99), (237, .getfield 307, 240, 99)]
def pg76_2 : List AEnt := [(240, .ireturn, 241, 99), (241, .aload 0, 242, 99), (242, .getfield 500, 245, 99), (245, .getfield 308, 248, 99), (248, .ireturn, 249, 99), (249, .aload 0, 250, 99), (250, .getfield 500, 253, 99), (253, .getfield 309, 256, 99), (256, .ireturn, 257, 99), (257, .aload 0, 258, 99), (258, .getfield 500, 261, 99), (261, .getfield 310, 264, 99), (264, .ireturn, 265, 99), (265, .aload 0, 266, 99), (266, .getfield 500, 269, 99), (269, .getfield 303, 272, 99), (272, .getfield 2, 275, 99), (275, .ireturn, 276, 99), (276, .aload 0, 277, 99), (277, .getfield 503, 280, 99), (280, .ireturn, 281, 99), (281, .aload 0, 282, 99), (282, .getfield 504, 285, 99), (285, .getfield 401, 288, 99), (288, .ireturn, 289, 99)]
def pg76 : List AEnt := pg76_0 ++ (pg76_1 ++ (pg76_2))
def ac76_0 : List Instr := [.iload_n 1, .ifCond .lt 9, .iload_n 1, .bipush 28, .if_icmp .lt 6, .ldc 65, .ireturn, .iload_n 1, .bipush 20, .if_icmp .lt 16, .aload_n 0, .getfield 10, .getfield 180, .iload_n 1, .bipush 20, .isub, .iaload, .ireturn, .iload_n 1, .tableswitch 248 0 18 #[91, 99, 107, 115, 125, 134, 143, 152, 160, 168, 176, 184, 192, 200, 208, 216, 224, 232, 243], .aload_n 0, .getfield 10, .getfield 184, .ireturn, .aload_n 0, .getfield 10, .getfield 187, .ireturn, .aload_n 0, .getfield 10, .getfield 170, .ireturn, .aload_n 0, .getfield 10, .iconst 0, .iconst (-1), .invokevirtual 112, .ireturn, .aload_n 0, .getfield 10]
def ac76_1 : List Instr := [.iconst 0, .invokevirtual 190, .ireturn, .aload_n 0, .getfield 10, .iconst 1, .invokevirtual 190, .ireturn, .aload_n 0, .getfield 10, .iconst 2, .invokevirtual 190, .ireturn, .aload_n 0, .getfield 10, .invokevirtual 97, .ireturn, .aload_n 0, .getfield 10, .invokevirtual 193, .ireturn, .aload_n 0, .getfield 10, .invokevirtual 196, .ireturn, .aload_n 0, .getfield 10, .invokevirtual 199, .ireturn, .aload_n 0, .getfield 10, .invokevirtual 202, .ireturn, .aload_n 0, .getfield 10, .invokevirtual 205, .ireturn, .aload_n 0, .getfield 10, .getfield 208]
def ac76_2 : List Instr := [.ireturn, .aload_n 0, .getfield 10, .getfield 211, .ireturn, .aload_n 0, .getfield 10, .getfield 212, .ireturn, .aload_n 0, .getfield 10, .getfield 215, .ireturn, .aload_n 0, .getfield 10, .getfield 138, .getfield 218, .ireturn, .aload_n 0, .getfield 221, .ireturn, .aload_n 0, .getfield 26, .getfield 224, .ireturn]
def ac76 : List Instr := ac76_0 ++ (ac76_1 ++ (ac76_2))
-- 77 CoatedBridges.undo()I
def pg77 : List AEnt := [(0, .aload 0, 1, 99), (1, .getfield 503, 4, 99), (4, .ifCond .ne 10, 7, 99), (7, .iconst (-1000002), 9, 99), (9, .ireturn, 10, 99), (10, .aload 0, 11, 99), (11, .dup, 12, 99), (12, .getfield 503, 15, 99), (15, .iconst (1), 16, 99), (16, .isub, 17, 99), (17, .putfield 503, 20, 99), (20, .aload 0, 21, 99), (21, .getfield 500, 24, 99), (24, .astore 1, 25, 99), (25, .aload 0, 26, 99), (26, .aload 0, 27, 99), (27, .getfield 502, 30, 99), (30, .aload 0, 31, 99), (31, .getfield 503, 34, 99), (34, .instanceof 15, 35, 99), (35, .putfield 500, 38, 99), (38, .aload 0, 39, 99), (39, .getfield 502, 42, 99), (42, .aload 0, 43, 99), (43, .getfield 503, 46, 99), (46, .aload 1, 47, 99), (47, .multianewarray 15 0, 48, 99), (48, .aload 0, 49, 99), (49, .getfield 503, 52, 99), (52, .ireturn, 53, 99)]
def ac77 : List Instr := [.aload_n 0, .getfield 221, .ifCond .ne 6, .ldc 163, .ireturn, .aload_n 0, .dup, .getfield 221, .iconst 1, .isub, .putfield 221, .aload_n 0, .getfield 10, .astore_n 1, .aload_n 0, .aload_n 0, .getfield 19, .aload_n 0, .getfield 221, .aaload, .putfield 10, .aload_n 0, .getfield 19, .aload_n 0, .getfield 221, .aload_n 1, .aastore, .aload_n 0, .getfield 221, .ireturn]
-- 78 CoatedBridges.type(I)I
def pg78 : List AEnt := [(0, .iload 1, 1, 99), (1, .iconst (32), 3, 99), (3, .if_icmp .lt 12, 6, 99), (6, .iload 1, 7, 99), (7, .iconst (126), 9, 99), (9, .if_icmp .le 15, 12, 99), (12, .iconst (-1000001), 14, 99), (14, .ireturn, 15, 99), (15, .aload 0, 16, 99), (16, .getfield 504, 19, 99), (19, .iload 1, 20, 99), (20, .i2c, 21, 99), (21, .invokevirtual 51, 24, 99), (24, .ifCond .eq 37, 27, 99), (27, .aload 0, 28, 99), (28, .getfield 504, 31, 99), (31, .getfield 401, 34, 99), (34, .goto 39, 37, 99), (37, .iconst (-1000003), 39, 99), (39, .ireturn, 40, 99)]
def ac78 : List Instr := [.iload_n 1, .bipush 32, .if_icmp .lt 9, .iload_n 1, .bipush 126, .if_icmp .le 6, .ldc 65, .ireturn, .aload_n 0, .getfield 26, .iload_n 1, .i2c, .invokevirtual 225, .ifCond .eq 13, .aload_n 0, .getfield 26, .getfield 224, .goto 5, .ldc 229, .ireturn]
-- 79 CoatedBridges.clearText()I
def pg79 : List AEnt := [(0, .aload 0, 1, 99), (1, .getfield 504, 4, 99), (4, .getfield 401, 7, 99), (7, .istore 1, 8, 99), (8, .aload 0, 9, 99), (9, .getfield 504, 12, 99), (12, .iconst (0), 13, 99), (13, .putfield 401, 16, 99), (16, .iload 1, 17, 99), (17, .ireturn, 18, 99)]
def ac79 : List Instr := [.aload_n 0, .getfield 26, .getfield 224, .istore_n 1, .aload_n 0, .getfield 26, .iconst 0, .putfield 224, .iload_n 1, .ireturn]
-- 80 CoatedBridges.fault(I)I
def pg80 : List AEnt := [(0, .iload 1, 1, 99), (1, .ifCond .lt 9, 4, 99), (4, .iload 1, 5, 99), (5, .iconst (2), 6, 99), (6, .if_icmp .le 12, 9, 99), (9, .iconst (-1000001), 11, 99), (11, .ireturn, 12, 99), (12, .aload 0, 13, 99), (13, .aload 0, 14, 99), (14, .invokevirtual 82, 17, 99), (17, .invokevirtual 85, 20, 99), (20, .ifCond .lt 26, 23, 99), (23, .iconst (-1000004), 25, 99), (25, .ireturn, 26, 99), (26, .iload 1, 27, 99), (27, .lookupswitch 62 #[(0, 52), (1, 57)], 52, 99), (52, .aload 0, 53, 99), (53, .getfield 505, 56, 99), (56, .ireturn, 57, 99), (57, .aload 0, 58, 99), (58, .getfield 506, 61, 99), (61, .ireturn, 62, 99), (62, .aload 0, 63, 99), (63, .getfield 507, 66, 99), (66, .ireturn, 67, 99)]
def ac80 : List Instr := [.iload_n 1, .ifCond .lt 8, .iload_n 1, .iconst 2, .if_icmp .le 6, .ldc 65, .ireturn, .aload_n 0, .aload_n 0, .invokevirtual 30, .invokevirtual 230, .ifCond .lt 6, .ldc 159, .ireturn, .iload_n 1, .lookupswitch 35 #[(0, 25), (1, 30)], .aload_n 0, .getfield 234, .ireturn, .aload_n 0, .getfield 237, .ireturn, .aload_n 0, .getfield 240, .ireturn]
-- 81 CoatedBridges.play()I
def pg81 : List AEnt := [(0, .aload 0, 1, 99), (1, .aload 0, 2, 99), (2, .aload 0, 3, 99), (3, .invokevirtual 82, 6, 99), (6, .invokevirtual 85, 9, 99), (9, .invokevirtual 83, 12, 99), (12, .ireturn, 13, 99)]
def ac81 : List Instr := [.aload_n 0, .aload_n 0, .aload_n 0, .invokevirtual 30, .invokevirtual 230, .invokevirtual 38, .ireturn]
-- 82 CoatedBridges.startTrial()LCoatedBridges$State;
def pg82 : List AEnt := [(0, .aload 0, 1, 99), (1, .getfield 501, 4, 99), (4, .aload 0, 5, 99), (5, .getfield 500, 8, 99), (8, .invokevirtual 19, 11, 99), (11, .aload 0, 12, 99), (12, .getfield 501, 15, 99), (15, .areturn, 16, 99)]
def ac82 : List Instr := [.aload_n 0, .getfield 16, .aload_n 0, .getfield 10, .invokevirtual 243, .aload_n 0, .getfield 16, .areturn]
-- 83 CoatedBridges.settle(I)I
def pg83 : List AEnt := [(0, .iload 1, 1, 99), (1, .ifCond .ge 6, 4, 99), (4, .iload 1, 5, 99), (5, .ireturn, 6, 99), (6, .aload 0, 7, 99), (7, .getfield 503, 10, 99), (10, .iconst (4), 11, 99), (11, .if_icmp .lt 18, 14, 99), (14, .aload 0, 15, 99), (15, .invokevirtual 84, 18, 99), (18, .aload 0, 19, 99), (19, .getfield 502, 22, 99), (22, .aload 0, 23, 99), (23, .getfield 503, 26, 99), (26, .instanceof 15, 27, 99), (27, .astore 2, 28, 99), (28, .aload 0, 29, 99), (29, .getfield 502, 32, 99), (32, .aload 0, 33, 99), (33, .getfield 503, 36, 99), (36, .aload 0, 37, 99), (37, .getfield 500, 40, 99), (40, .multianewarray 15 0, 41, 99), (41, .aload 0, 42, 99), (42, .dup, 43, 99), (43, .getfield 503, 46, 99), (46, .iconst (1), 47, 99), (47, .iadd, 48, 99), (48, .putfield 503, 51, 99), (51, .aload 0, 52, 99), (52, .aload 0, 53, 99), (53, .getfield 501, 56, 99), (56, .putfield 500, 59, 99), (59, .aload 0, 60, 99), (60, .aload 2, 61, 99), (61, .putfield 501, 64, 99), (64, .iload 1, 65, 99), (65, .ireturn, 66, 99)]
def ac83 : List Instr := [.iload_n 1, .ifCond .ge 5, .iload_n 1, .ireturn, .aload_n 0, .getfield 221, .iconst 4, .if_icmp .lt 7, .aload_n 0, .invokevirtual 247, .aload_n 0, .getfield 19, .aload_n 0, .getfield 221, .aaload, .astore_n 2, .aload_n 0, .getfield 19, .aload_n 0, .getfield 221, .aload_n 0, .getfield 10, .aastore, .aload_n 0, .dup, .getfield 221, .iconst 1, .iadd, .putfield 221, .aload_n 0, .aload_n 0, .getfield 16, .putfield 10, .aload_n 0, .aload_n 2, .putfield 16, .iload_n 1, .ireturn]
-- 84 CoatedBridges.dropOldest()V
def pg84 : List AEnt := [(0, .aload 0, 1, 99), (1, .getfield 502, 4, 99), (4, .iconst (0), 5, 99), (5, .instanceof 15, 6, 99), (6, .astore 1, 7, 99), (7, .iconst (1), 8, 99), (8, .istore 2, 9, 99), (9, .iload 2, 10, 3), (10, .iconst (4), 11, 99), (11, .if_icmp .ge 34, 14, 99), (14, .aload 0, 15, 99), (15, .getfield 502, 18, 99), (18, .iload 2, 19, 99), (19, .iconst (1), 20, 99), (20, .isub, 21, 99), (21, .aload 0, 22, 99), (22, .getfield 502, 25, 99), (25, .iload 2, 26, 99), (26, .instanceof 15, 27, 99), (27, .multianewarray 15 0, 28, 99), (28, .iinc 2 (1), 31, 99), (31, .goto 9, 34, 99), (34, .aload 0, 35, 99), (35, .getfield 502, 38, 99), (38, .iconst (3), 39, 99), (39, .aload 1, 40, 99), (40, .multianewarray 15 0, 41, 99), (41, .aload 0, 42, 99), (42, .iconst (3), 43, 99), (43, .putfield 503, 46, 99), (46, .return_, 47, 99)]
def ac84 : List Instr := [.aload_n 0, .getfield 19, .iconst 0, .aaload, .astore_n 1, .iconst 1, .istore_n 2, .iload_n 2, .iconst 4, .if_icmp .ge 23, .aload_n 0, .getfield 19, .iload_n 2, .iconst 1, .isub, .aload_n 0, .getfield 19, .iload_n 2, .aaload, .aastore, .iinc 2 1, .goto (-22), .aload_n 0, .getfield 19, .iconst 3, .aload_n 1, .aastore, .aload_n 0, .iconst 3, .putfield 221, .return_]
-- 85 CoatedBridges.obeyText(LCoatedBridges$State;)I
def pg85_0 : List AEnt := [(0, .iconst (0), 1, 99), (1, .istore 2, 2, 99), (2, .iconst (0), 3, 99), (3, .istore 3, 4, 99), (4, .iload 3, 5, 4), (5, .iconst (60), 7, 99), (7, .if_icmp .ge 87, 10, 99), (10, .iload 2, 11, 99), (11, .aload 0, 12, 99), (12, .getfield 504, 15, 99), (15, .getfield 401, 18, 99), (18, .if_icmp .ge 87, 21, 99), (21, .aload 0, 22, 99), (22, .getfield 504, 25, 99), (25, .iload 2, 26, 99), (26, .invokevirtual 52, 29, 99), (29, .ifCond .ne 50, 32, 99), (32, .aload 0, 33, 99), (33, .iload 2, 34, 99), (34, .iconst (1), 35, 99), (35, .aload 0, 36, 99), (36, .getfield 504, 39, 99), (39, .getfield 404, 42, 99), (42, .iload 2, 43, 99), (43, .isub, 44, 99), (44, .invokevirtual 86, 47, 99), (47, .iconst (-1000002), 49, 99), (49, .ireturn, 50, 99), (50, .aload 0, 51, 99), (51, .aload 1, 52, 99), (52, .invokevirtual 87, 55, 99), (55, .istore 4, 57, 99), (57, .iload 4, 59, 99), (59, .ifCond .ge 73, 62, 99), (62, .aload 0, 63, 99), (63, .iload 2, 64, 99), (64, .iconst (2), 65, 99), (65, .iload 4, 67, 99), (67, .invokevirtual 86, 70, 99), (70, .iconst (-1000002), 72, 99)]
def pg85_1 : List AEnt := [(72, .ireturn, 73, 99), (73, .aload 0, 74, 99), (74, .getfield 504, 77, 99), (77, .getfield 404, 80, 99), (80, .istore 2, 81, 99), (81, .iinc 3 (1), 84, 99), (84, .goto 4, 87, 99), (87, .iload 3, 88, 99), (88, .ireturn, 89, 99)]
def pg85 : List AEnt := pg85_0 ++ (pg85_1)
def ac85_0 : List Instr := [.iconst 0, .istore_n 2, .iconst 0, .istore_n 3, .iload_n 3, .bipush 60, .if_icmp .ge 80, .iload_n 2, .aload_n 0, .getfield 26, .getfield 224, .if_icmp .ge 69, .aload_n 0, .getfield 26, .iload_n 2, .invokevirtual 250, .ifCond .ne 21, .aload_n 0, .iload_n 2, .iconst 1, .aload_n 0, .getfield 26, .getfield 253, .iload_n 2, .isub, .invokevirtual 256, .ldc 163, .ireturn, .aload_n 0, .aload_n 1, .invokevirtual 260, .istore 4, .iload 4, .ifCond .ge 14, .aload_n 0, .iload_n 2, .iconst 2, .iload 4, .invokevirtual 256, .ldc 163]
def ac85_1 : List Instr := [.ireturn, .aload_n 0, .getfield 26, .getfield 253, .istore_n 2, .iinc 3 1, .goto (-80), .iload_n 3, .ireturn]
def ac85 : List Instr := ac85_0 ++ (ac85_1)
-- 86 CoatedBridges.noteFault(III)V
def pg86 : List AEnt := [(0, .aload 0, 1, 99), (1, .iload 1, 2, 99), (2, .putfield 505, 5, 99), (5, .aload 0, 6, 99), (6, .iload 2, 7, 99), (7, .putfield 506, 10, 99), (10, .aload 0, 11, 99), (11, .iload 3, 12, 99), (12, .putfield 507, 15, 99), (15, .return_, 16, 99)]
def ac86 : List Instr := [.aload_n 0, .iload_n 1, .putfield 234, .aload_n 0, .iload_n 2, .putfield 237, .aload_n 0, .iload_n 3, .putfield 240, .return_]
-- 87 CoatedBridges.obeyOrder(LCoatedBridges$State;)I
def pg87_0 : List AEnt := [(0, .aload 0, 1, 99), (1, .getfield 504, 4, 99), (4, .getfield 402, 7, 99), (7, .iconst (0), 8, 99), (8, .iaload, 9, 99), (9, .istore 2, 10, 99), (10, .aload 0, 11, 99), (11, .getfield 504, 14, 99), (14, .getfield 403, 17, 99), (17, .tableswitch 166 (98) (115) #[110, 166, 160, 166, 141, 166, 166, 104, 166, 166, 166, 166, 166, 166, 154, 166, 148, 134], 104, 99), (104, .aload 1, 105, 99), (105, .iload 2, 106, 99), (106, .invokevirtual 22, 109, 99), (109, .ireturn, 110, 99), (110, .aload 1, 111, 99), (111, .iload 2, 112, 99), (112, .aload 0, 113, 99), (113, .getfield 504, 116, 99), (116, .getfield 402, 119, 99), (119, .iconst (1), 120, 99), (120, .iaload, 121, 99), (121, .aload 0, 122, 99), (122, .getfield 504, 125, 99), (125, .getfield 402, 128, 99), (128, .iconst (2), 129, 99), (129, .iaload, 130, 99), (130, .invokevirtual 23, 133, 99), (133, .ireturn, 134, 99), (134, .aload 1, 135, 99), (135, .iload 2, 136, 99), (136, .iconst (0), 137, 99), (137, .invokevirtual 24, 140, 99), (140, .ireturn, 141, 99), (141, .aload 1, 142, 99), (142, .iload 2, 143, 99), (143, .iconst (1), 144, 99), (144, .invokevirtual 24, 147, 99), (147, .ireturn, 148, 99), (148, .aload 1, 149, 99), (149, .iload 2, 150, 99)]
def pg87_1 : List AEnt := [(150, .invokevirtual 25, 153, 99), (153, .ireturn, 154, 99), (154, .aload 1, 155, 99), (155, .iload 2, 156, 99), (156, .invokevirtual 26, 159, 99), (159, .ireturn, 160, 99), (160, .aload 1, 161, 99), (161, .iload 2, 162, 99), (162, .invokevirtual 28, 165, 99), (165, .ireturn, 166, 99), (166, .iconst (-1000001), 168, 99), (168, .ireturn, 169, 99)]
def pg87 : List AEnt := pg87_0 ++ (pg87_1)
def ac87_0 : List Instr := [.aload_n 0, .getfield 26, .getfield 263, .iconst 0, .iaload, .istore_n 2, .aload_n 0, .getfield 26, .getfield 266, .tableswitch 149 98 115 #[93, 149, 143, 149, 124, 149, 149, 87, 149, 149, 149, 149, 149, 149, 137, 149, 131, 117], .aload_n 1, .iload_n 2, .invokevirtual 34, .ireturn, .aload_n 1, .iload_n 2, .aload_n 0, .getfield 26, .getfield 263, .iconst 1, .iaload, .aload_n 0, .getfield 26, .getfield 263, .iconst 2, .iaload, .invokevirtual 41, .ireturn, .aload_n 1, .iload_n 2, .iconst 0, .invokevirtual 45, .ireturn, .aload_n 1, .iload_n 2, .iconst 1, .invokevirtual 45, .ireturn, .aload_n 1, .iload_n 2]
def ac87_1 : List Instr := [.invokevirtual 49, .ireturn, .aload_n 1, .iload_n 2, .invokevirtual 52, .ireturn, .aload_n 1, .iload_n 2, .invokevirtual 55, .ireturn, .ldc 65, .ireturn]
def ac87 : List Instr := ac87_0 ++ (ac87_1)
-- 88 CoatedBridges.holds(II)Z
def pg88 : List AEnt := [(0, .iload 0, 1, 99), (1, .iload 1, 2, 99), (2, .ishr, 3, 99), (3, .iconst (1), 4, 99), (4, .iand, 5, 99), (5, .iconst (1), 6, 99), (6, .if_icmp .ne 13, 9, 99), (9, .iconst (1), 10, 99), (10, .goto 14, 13, 99), (13, .iconst (0), 14, 99), (14, .freturn, 15, 99)]
def ac88 : List Instr := [.iload_n 0, .iload_n 1, .ishr, .iconst 1, .iand, .iconst 1, .if_icmp .ne 7, .iconst 1, .goto 4, .iconst 0, .ireturn]
-- 89 CoatedBridges.lowestIn(I)I
def pg89 : List AEnt := [(0, .iload 0, 1, 99), (1, .invokestatic 169, 4, 99), (4, .ireturn, 5, 99)]
def ac89 : List Instr := [.iload_n 0, .invokestatic 270, .ireturn]
-- 90 CoatedBridges.bitsOf(F)I
def pg90_0 : List AEnt := [(0, .fload 0, 1, 99), (1, .ldc 0, 2, 99), (2, .fcmp .l, 3, 99), (3, .ifCond .gt 8, 6, 99), (6, .iconst (0), 7, 99), (7, .ireturn, 8, 99), (8, .iconst (127), 10, 99), (10, .istore 1, 11, 99), (11, .fload 0, 12, 99), (12, .fstore 2, 13, 99), (13, .iconst (0), 14, 99), (14, .istore 3, 15, 99), (15, .iload 3, 16, 4), (16, .iconst (127), 18, 99), (18, .if_icmp .ge 40, 21, 99), (21, .fload 2, 22, 99), (22, .ldc 1073741824, 23, 99), (23, .fcmp .l, 24, 99), (24, .ifCond .lt 40, 27, 99), (27, .fload 2, 28, 99), (28, .ldc 1073741824, 29, 99), (29, .fdiv, 30, 99), (30, .fstore 2, 31, 99), (31, .iinc 1 (1), 34, 99), (34, .iinc 3 (1), 37, 99), (37, .goto 15, 40, 99), (40, .iconst (0), 41, 99), (41, .istore 3, 42, 99), (42, .iload 3, 43, 4), (43, .iconst (126), 45, 99), (45, .if_icmp .ge 67, 48, 99), (48, .fload 2, 49, 99), (49, .ldc 1065353216, 50, 99), (50, .fcmp .g, 51, 99), (51, .ifCond .ge 67, 54, 99), (54, .fload 2, 55, 99), (55, .ldc 1073741824, 56, 99), (56, .fmul, 57, 99), (57, .fstore 2, 58, 99), (58, .iinc 1 (-1), 61, 99)]
def pg90_1 : List AEnt := [(61, .iinc 3 (1), 64, 99), (64, .goto 42, 67, 99), (67, .iload 1, 68, 99), (68, .iconst (23), 70, 99), (70, .ishl, 71, 99), (71, .fload 2, 72, 99), (72, .ldc 1065353216, 73, 99), (73, .fsub, 74, 99), (74, .ldc 1258291200, 77, 99), (77, .fmul, 78, 99), (78, .f2i, 79, 99), (79, .ior, 80, 99), (80, .ireturn, 81, 99)]
def pg90 : List AEnt := pg90_0 ++ (pg90_1)
def ac90_0 : List Instr := [.fload_n 0, .fconst 0, .fcmp .l, .ifCond .gt 5, .iconst 0, .ireturn, .bipush 127, .istore_n 1, .fload_n 0, .fstore_n 2, .iconst 0, .istore_n 3, .iload_n 3, .bipush 127, .if_icmp .ge 22, .fload_n 2, .fconst 2, .fcmp .l, .ifCond .lt 16, .fload_n 2, .fconst 2, .fdiv, .fstore_n 2, .iinc 1 1, .iinc 3 1, .goto (-22), .iconst 0, .istore_n 3, .iload_n 3, .bipush 126, .if_icmp .ge 22, .fload_n 2, .fconst 1, .fcmp .g, .ifCond .ge 16, .fload_n 2, .fconst 2, .fmul, .fstore_n 2, .iinc 1 (-1)]
def ac90_1 : List Instr := [.iinc 3 1, .goto (-22), .iload_n 1, .bipush 23, .ishl, .fload_n 2, .fconst 1, .fsub, .ldc_w 275, .fmul, .f2i, .ior, .ireturn]
def ac90 : List Instr := ac90_0 ++ (ac90_1)
-- 91 CoatedBridgesModel.<init>()V
def pg91_0 : List AEnt := [(0, .aload 0, 1, 99), (1, .nop, 4, 99), (4, .aload 0, 5, 99), (5, .iconst (184), 8, 99), (8, .newarray .int, 10, 99), (10, .putfield 600, 13, 99), (13, .aload 0, 14, 99), (14, .iconst (184), 17, 99), (17, .newarray .int, 19, 99), (19, .putfield 601, 22, 99), (22, .aload 0, 23, 99), (23, .iconst (184), 26, 99), (26, .newarray .int, 28, 99), (28, .putfield 602, 31, 99), (31, .aload 0, 32, 99), (32, .iconst (736), 35, 99), (35, .newarray .int, 37, 99), (37, .putfield 603, 40, 99), (40, .aload 0, 41, 99), (41, .iconst (60), 43, 99), (43, .newarray .int, 45, 99), (45, .putfield 605, 48, 99), (48, .aload 0, 49, 99), (49, .iconst (14), 51, 99), (51, .newarray .boolean, 53, 99), (53, .putfield 607, 56, 99), (56, .aload 0, 57, 99), (57, .iconst (3), 58, 99), (58, .newarray .int, 60, 99), (60, .putfield 612, 63, 99), (63, .aload 0, 64, 99), (64, .getfield 600, 67, 99), (67, .iconst (1), 68, 99), (68, .iconst (1), 69, 99), (69, .iastore, 70, 99), (70, .aload 0, 71, 99), (71, .getfield 600, 74, 99), (74, .iconst (3), 75, 99), (75, .iconst (1), 76, 99), (76, .iastore, 77, 99)]
def pg91_1 : List AEnt := [(77, .aload 0, 78, 99), (78, .getfield 600, 81, 99), (81, .iconst (4), 82, 99), (82, .iconst (30), 84, 99), (84, .iastore, 85, 99), (85, .aload 0, 86, 99), (86, .getfield 600, 89, 99), (89, .iconst (5), 90, 99), (90, .iconst (10), 92, 99), (92, .iastore, 93, 99), (93, .aload 0, 94, 99), (94, .getfield 600, 97, 99), (97, .iconst (7), 99, 99), (99, .iconst (3), 100, 99), (100, .iastore, 101, 99), (101, .aload 0, 102, 99), (102, .getfield 600, 105, 99), (105, .iconst (8), 107, 99), (107, .iconst (12), 109, 99), (109, .iastore, 110, 99), (110, .aload 0, 111, 99), (111, .getfield 600, 114, 99), (114, .iconst (10), 116, 99), (116, .iconst (40), 118, 99), (118, .iastore, 119, 99), (119, .aload 0, 120, 99), (120, .getfield 600, 123, 99), (123, .iconst (11), 125, 99), (125, .iconst (200), 128, 99), (128, .iastore, 129, 99), (129, .return_, 130, 99)]
def pg91 : List AEnt := pg91_0 ++ (pg91_1)
def ac91_0 : List Instr := [.aload_n 0, .invokespecial 1, .aload_n 0, .sipush 184, .newarray .int, .putfield 7, .aload_n 0, .sipush 184, .newarray .int, .putfield 13, .aload_n 0, .sipush 184, .newarray .int, .putfield 16, .aload_n 0, .sipush 736, .newarray .int, .putfield 19, .aload_n 0, .bipush 60, .newarray .int, .putfield 22, .aload_n 0, .bipush 14, .newarray .boolean, .putfield 25, .aload_n 0, .iconst 3, .newarray .int, .putfield 29, .aload_n 0, .getfield 7, .iconst 1, .iconst 1, .iastore, .aload_n 0, .getfield 7, .iconst 3, .iconst 1, .iastore]
def ac91_1 : List Instr := [.aload_n 0, .getfield 7, .iconst 4, .bipush 30, .iastore, .aload_n 0, .getfield 7, .iconst 5, .bipush 10, .iastore, .aload_n 0, .getfield 7, .bipush 7, .iconst 3, .iastore, .aload_n 0, .getfield 7, .bipush 8, .bipush 12, .iastore, .aload_n 0, .getfield 7, .bipush 10, .bipush 40, .iastore, .aload_n 0, .getfield 7, .bipush 11, .sipush 200, .iastore, .return_]
def ac91 : List Instr := ac91_0 ++ (ac91_1)
-- 92 CoatedBridgesModel.in(III)Z
def pg92 : List AEnt := [(0, .iload 0, 1, 99), (1, .iload 1, 2, 99), (2, .if_icmp .lt 14, 5, 99), (5, .iload 0, 6, 99), (6, .iload 2, 7, 99), (7, .if_icmp .gt 14, 10, 99), (10, .iconst (1), 11, 99), (11, .goto 15, 14, 99), (14, .iconst (0), 15, 99), (15, .freturn, 16, 99)]
def ac92 : List Instr := [.iload_n 0, .iload_n 1, .if_icmp .lt 12, .iload_n 0, .iload_n 2, .if_icmp .gt 7, .iconst 1, .goto 4, .iconst 0, .ireturn]
-- 93 CoatedBridgesModel.copies([II[II)V
def pg93 : List AEnt := [(0, .iconst (0), 1, 99), (1, .istore 4, 3, 99), (3, .iload 4, 5, 5), (5, .iconst (184), 8, 99), (8, .if_icmp .ge 29, 11, 99), (11, .aload 2, 12, 99), (12, .iload 3, 13, 99), (13, .iload 4, 15, 99), (15, .iadd, 16, 99), (16, .aload 0, 17, 99), (17, .iload 1, 18, 99), (18, .iload 4, 20, 99), (20, .iadd, 21, 99), (21, .iaload, 22, 99), (22, .iastore, 23, 99), (23, .iinc 4 (1), 26, 99), (26, .goto 3, 29, 99), (29, .return_, 30, 99)]
def ac93 : List Instr := [.iconst 0, .istore 4, .iload 4, .sipush 184, .if_icmp .ge 21, .aload_n 2, .iload_n 3, .iload 4, .iadd, .aload_n 0, .iload_n 1, .iload 4, .iadd, .iaload, .iastore, .iinc 4 1, .goto (-23), .return_]
-- 94 CoatedBridgesModel.records()V
def pg94_0 : List AEnt := [(0, .aload 0, 1, 99), (1, .getfield 604, 4, 99), (4, .iconst (4), 5, 99), (5, .if_icmp .ne 49, 8, 99), (8, .iconst (0), 9, 99), (9, .istore 1, 10, 99), (10, .iload 1, 11, 2), (11, .iconst (552), 14, 99), (14, .if_icmp .ge 39, 17, 99), (17, .aload 0, 18, 99), (18, .getfield 603, 21, 99), (21, .iload 1, 22, 99), (22, .aload 0, 23, 99), (23, .getfield 603, 26, 99), (26, .iload 1, 27, 99), (27, .iconst (184), 30, 99), (30, .iadd, 31, 99), (31, .iaload, 32, 99), (32, .iastore, 33, 99), (33, .iinc 1 (1), 36, 99), (36, .goto 10, 39, 99), (39, .aload 0, 40, 99), (40, .dup, 41, 99), (41, .getfield 604, 44, 99), (44, .iconst (1), 45, 99), (45, .isub, 46, 99), (46, .putfield 604, 49, 99), (49, .aload 0, 50, 99), (50, .getfield 600, 53, 99), (53, .iconst (0), 54, 99), (54, .aload 0, 55, 99), (55, .getfield 603, 58, 99), (58, .iconst (184), 61, 99), (61, .aload 0, 62, 99), (62, .getfield 604, 65, 99), (65, .imul, 66, 99), (66, .invokestatic 93, 69, 99), (69, .aload 0, 70, 99), (70, .dup, 71, 99), (71, .getfield 604, 74, 99)]
def pg94_1 : List AEnt := [(74, .iconst (1), 75, 99), (75, .iadd, 76, 99), (76, .putfield 604, 79, 99), (79, .return_, 80, 99)]
def pg94 : List AEnt := pg94_0 ++ (pg94_1)
def ac94_0 : List Instr := [.aload_n 0, .getfield 32, .iconst 4, .if_icmp .ne 44, .iconst 0, .istore_n 1, .iload_n 1, .sipush 552, .if_icmp .ge 25, .aload_n 0, .getfield 19, .iload_n 1, .aload_n 0, .getfield 19, .iload_n 1, .sipush 184, .iadd, .iaload, .iastore, .iinc 1 1, .goto (-26), .aload_n 0, .dup, .getfield 32, .iconst 1, .isub, .putfield 32, .aload_n 0, .getfield 7, .iconst 0, .aload_n 0, .getfield 19, .sipush 184, .aload_n 0, .getfield 32, .imul, .invokestatic 36, .aload_n 0, .dup, .getfield 32]
def ac94_1 : List Instr := [.iconst 1, .iadd, .putfield 32, .return_]
def ac94 : List Instr := ac94_0 ++ (ac94_1)
-- 95 CoatedBridgesModel.isIsland(I)Z
def pg95 : List AEnt := [(0, .iload 1, 1, 99), (1, .iconst (0), 2, 99), (2, .aload 0, 3, 99), (3, .getfield 600, 6, 99), (6, .iconst (1), 7, 99), (7, .iaload, 8, 99), (8, .iconst (1), 9, 99), (9, .isub, 10, 99), (10, .invokestatic 92, 13, 99), (13, .freturn, 14, 99)]
def ac95 : List Instr := [.iload_n 1, .iconst 0, .aload_n 0, .getfield 7, .iconst 1, .iaload, .iconst 1, .isub, .invokestatic 40, .ireturn]
-- 96 CoatedBridgesModel.isBridge(I)Z
def pg96 : List AEnt := [(0, .iload 1, 1, 99), (1, .iconst (0), 2, 99), (2, .aload 0, 3, 99), (3, .getfield 600, 6, 99), (6, .iconst (2), 7, 99), (7, .iaload, 8, 99), (8, .iconst (1), 9, 99), (9, .isub, 10, 99), (10, .invokestatic 92, 13, 99), (13, .freturn, 14, 99)]
def ac96 : List Instr := [.iload_n 1, .iconst 0, .aload_n 0, .getfield 7, .iconst 2, .iaload, .iconst 1, .isub, .invokestatic 40, .ireturn]
-- 97 CoatedBridgesModel.of(II)I
def pg97 : List AEnt := [(0, .aload 0, 1, 99), (1, .getfield 600, 4, 99), (4, .iconst (72), 6, 99), (6, .iconst (8), 8, 99), (8, .iload 1, 9, 99), (9, .imul, 10, 99), (10, .iadd, 11, 99), (11, .iload 2, 12, 99), (12, .iadd, 13, 99), (13, .iaload, 14, 99), (14, .ireturn, 15, 99)]
def ac97 : List Instr := [.aload_n 0, .getfield 7, .bipush 72, .bipush 8, .iload_n 1, .imul, .iadd, .iload_n 2, .iadd, .iaload, .ireturn]
-- 98 CoatedBridgesModel.lays(III)V
def pg98 : List AEnt := [(0, .aload 0, 1, 99), (1, .getfield 600, 4, 99), (4, .iconst (72), 6, 99), (6, .iconst (8), 8, 99), (8, .iload 1, 9, 99), (9, .imul, 10, 99), (10, .iadd, 11, 99), (11, .iload 2, 12, 99), (12, .iadd, 13, 99), (13, .iload 3, 14, 99), (14, .iastore, 15, 99), (15, .return_, 16, 99)]
def ac98 : List Instr := [.aload_n 0, .getfield 7, .bipush 72, .bipush 8, .iload_n 1, .imul, .iadd, .iload_n 2, .iadd, .iload_n 3, .iastore, .return_]
-- 99 CoatedBridgesModel.adds(III)V
def pg99 : List AEnt := [(0, .aload 0, 1, 99), (1, .getfield 600, 4, 99), (4, .iconst (72), 6, 99), (6, .iconst (8), 8, 99), (8, .iload 1, 9, 99), (9, .imul, 10, 99), (10, .iadd, 11, 99), (11, .iload 2, 12, 99), (12, .iadd, 13, 99), (13, .dup2, 14, 99), (14, .iaload, 15, 99), (15, .iload 3, 16, 99), (16, .iadd, 17, 99), (17, .iastore, 18, 99), (18, .return_, 19, 99)]
def ac99 : List Instr := [.aload_n 0, .getfield 7, .bipush 72, .bipush 8, .iload_n 1, .imul, .iadd, .iload_n 2, .iadd, .dup2, .iaload, .iload_n 3, .iadd, .iastore, .return_]
-- 100 CoatedBridgesModel.ofIsland(II)I
def pg100 : List AEnt := [(0, .aload 0, 1, 99), (1, .getfield 600, 4, 99), (4, .iconst (32), 6, 99), (6, .iconst (5), 7, 99), (7, .iload 1, 8, 99), (8, .imul, 9, 99), (9, .iadd, 10, 99), (10, .iload 2, 11, 99), (11, .iadd, 12, 99), (12, .iaload, 13, 99), (13, .ireturn, 14, 99)]
def ac100 : List Instr := [.aload_n 0, .getfield 7, .bipush 32, .iconst 5, .iload_n 1, .imul, .iadd, .iload_n 2, .iadd, .iaload, .ireturn]
-- 101 CoatedBridgesModel.laysIsland(III)V
def pg101 : List AEnt := [(0, .aload 0, 1, 99), (1, .getfield 600, 4, 99), (4, .iconst (32), 6, 99), (6, .iconst (5), 7, 99), (7, .iload 1, 8, 99), (8, .imul, 9, 99), (9, .iadd, 10, 99), (10, .iload 2, 11, 99), (11, .iadd, 12, 99), (12, .iload 3, 13, 99), (13, .iastore, 14, 99), (14, .return_, 15, 99)]
def ac101 : List Instr := [.aload_n 0, .getfield 7, .bipush 32, .iconst 5, .iload_n 1, .imul, .iadd, .iload_n 2, .iadd, .iload_n 3, .iastore, .return_]
-- 102 CoatedBridgesModel.addsIsland(II)V
def pg102 : List AEnt := [(0, .aload 0, 1, 99), (1, .getfield 600, 4, 99), (4, .iconst (32), 6, 99), (6, .iconst (5), 7, 99), (7, .iload 1, 8, 99), (8, .imul, 9, 99), (9, .iadd, 10, 99), (10, .iload 2, 11, 99), (11, .iadd, 12, 99), (12, .dup2, 13, 99), (13, .iaload, 14, 99), (14, .iconst (1), 15, 99), (15, .iadd, 16, 99), (16, .iastore, 17, 99), (17, .return_, 18, 99)]
def ac102 : List Instr := [.aload_n 0, .getfield 7, .bipush 32, .iconst 5, .iload_n 1, .imul, .iadd, .iload_n 2, .iadd, .dup2, .iaload, .iconst 1, .iadd, .iastore, .return_]
-- 103 CoatedBridgesModel.isPainted(I)Z
def pg103 : List AEnt := [(0, .aload 0, 1, 99), (1, .iload 1, 2, 99), (2, .iconst (4), 3, 99), (3, .invokevirtual 97, 6, 99), (6, .iconst (1), 7, 99), (7, .if_icmp .ne 14, 10, 99), (10, .iconst (1), 11, 99), (11, .goto 15, 14, 99), (14, .iconst (0), 15, 99), (15, .freturn, 16, 99)]
def ac103 : List Instr := [.aload_n 0, .iload_n 1, .iconst 4, .invokevirtual 44, .iconst 1, .if_icmp .ne 7, .iconst 1, .goto 4, .iconst 0, .ireturn]
-- 104 CoatedBridgesModel.isOpen(I)Z
def pg104 : List AEnt := [(0, .aload 0, 1, 99), (1, .iload 1, 2, 99), (2, .iconst (4), 3, 99), (3, .invokevirtual 97, 6, 99), (6, .ifCond .ne 22, 9, 99), (9, .aload 0, 10, 99), (10, .iload 1, 11, 99), (11, .iconst (3), 12, 99), (12, .invokevirtual 97, 15, 99), (15, .ifCond .le 22, 18, 99), (18, .iconst (1), 19, 99), (19, .goto 23, 22, 99), (22, .iconst (0), 23, 99), (23, .freturn, 24, 99)]
def ac104 : List Instr := [.aload_n 0, .iload_n 1, .iconst 4, .invokevirtual 44, .ifCond .ne 16, .aload_n 0, .iload_n 1, .iconst 3, .invokevirtual 44, .ifCond .le 7, .iconst 1, .goto 4, .iconst 0, .ireturn]
-- 105 CoatedBridgesModel.stateOf(I)I
def pg105 : List AEnt := [(0, .aload 0, 1, 99), (1, .iload 1, 2, 99), (2, .invokevirtual 103, 5, 99), (5, .ifCond .eq 12, 8, 99), (8, .iconst (1), 9, 99), (9, .goto 26, 12, 99), (12, .aload 0, 13, 99), (13, .iload 1, 14, 99), (14, .iconst (3), 15, 99), (15, .invokevirtual 97, 18, 99), (18, .ifCond .le 25, 21, 99), (21, .iconst (0), 22, 99), (22, .goto 26, 25, 99), (25, .iconst (2), 26, 99), (26, .ireturn, 27, 99)]
def ac105 : List Instr := [.aload_n 0, .iload_n 1, .invokevirtual 48, .ifCond .eq 7, .iconst 1, .goto 17, .aload_n 0, .iload_n 1, .iconst 3, .invokevirtual 44, .ifCond .le 7, .iconst 0, .goto 4, .iconst 2, .ireturn]
-- 106 CoatedBridgesModel.reached(II)I
def pg106_0 : List AEnt := [(0, .iconst (1), 1, 99), (1, .iload 1, 2, 99), (2, .ishl, 3, 99), (3, .istore 3, 4, 99), (4, .iconst (0), 5, 99), (5, .istore 4, 7, 99), (7, .iload 4, 9, 5), (9, .iload 3, 10, 99), (10, .if_icmp .eq 91, 13, 99), (13, .iload 3, 14, 99), (14, .istore 4, 16, 99), (16, .iconst (0), 17, 99), (17, .istore 5, 19, 99), (19, .iload 5, 21, 6), (21, .aload 0, 22, 99), (22, .getfield 600, 25, 99), (25, .iconst (2), 26, 99), (26, .iaload, 27, 99), (27, .if_icmp .ge 88, 30, 99), (30, .iconst (1), 31, 99), (31, .aload 0, 32, 99), (32, .iload 5, 34, 99), (34, .iconst (0), 35, 99), (35, .invokevirtual 97, 38, 99), (38, .ishl, 39, 99), (39, .iconst (1), 40, 99), (40, .aload 0, 41, 99), (41, .iload 5, 43, 99), (43, .iconst (1), 44, 99), (44, .invokevirtual 97, 47, 99), (47, .ishl, 48, 99), (48, .ior, 49, 99), (49, .istore 6, 51, 99), (51, .iload 3, 52, 99), (52, .iload 5, 54, 99), (54, .iload 2, 55, 99), (55, .if_icmp .eq 79, 58, 99), (58, .aload 0, 59, 99), (59, .iload 5, 61, 99), (61, .invokevirtual 104, 64, 99)]
def pg106_1 : List AEnt := [(64, .ifCond .eq 79, 67, 99), (67, .iload 3, 68, 99), (68, .iload 6, 70, 99), (70, .iand, 71, 99), (71, .ifCond .eq 79, 74, 99), (74, .iload 6, 76, 99), (76, .goto 80, 79, 99), (79, .iconst (0), 80, 99), (80, .ior, 81, 99), (81, .istore 3, 82, 99), (82, .iinc 5 (1), 85, 99), (85, .goto 19, 88, 99), (88, .goto 7, 91, 99), (91, .iload 3, 92, 99), (92, .ireturn, 93, 99)]
def pg106 : List AEnt := pg106_0 ++ (pg106_1)
def ac106_0 : List Instr := [.iconst 1, .iload_n 1, .ishl, .istore_n 3, .iconst 0, .istore 4, .iload 4, .iload_n 3, .if_icmp .eq 81, .iload_n 3, .istore 4, .iconst 0, .istore 5, .iload 5, .aload_n 0, .getfield 7, .iconst 2, .iaload, .if_icmp .ge 61, .iconst 1, .aload_n 0, .iload 5, .iconst 0, .invokevirtual 44, .ishl, .iconst 1, .aload_n 0, .iload 5, .iconst 1, .invokevirtual 44, .ishl, .ior, .istore 6, .iload_n 3, .iload 5, .iload_n 2, .if_icmp .eq 24, .aload_n 0, .iload 5, .invokevirtual 52]
def ac106_1 : List Instr := [.ifCond .eq 15, .iload_n 3, .iload 6, .iand, .ifCond .eq 8, .iload 6, .goto 4, .iconst 0, .ior, .istore_n 3, .iinc 5 1, .goto (-66), .goto (-81), .iload_n 3, .ireturn]
def ac106 : List Instr := ac106_0 ++ (ac106_1)
-- 107 CoatedBridgesModel.cutOff(I)I
def pg107 : List AEnt := [(0, .aload 0, 1, 99), (1, .iconst (0), 2, 99), (2, .iconst (-1000004), 4, 99), (4, .invokevirtual 106, 7, 99), (7, .aload 0, 8, 99), (8, .iconst (0), 9, 99), (9, .iload 1, 10, 99), (10, .invokevirtual 106, 13, 99), (13, .iconst (-1), 14, 99), (14, .ixor, 15, 99), (15, .iand, 16, 99), (16, .ireturn, 17, 99)]
def ac107 : List Instr := [.aload_n 0, .iconst 0, .ldc 55, .invokevirtual 56, .aload_n 0, .iconst 0, .iload_n 1, .invokevirtual 56, .iconst (-1), .ixor, .iand, .ireturn]
-- 108 CoatedBridgesModel.painted()I
def pg108 : List AEnt := [(0, .iconst (0), 1, 99), (1, .istore 1, 2, 99), (2, .iconst (0), 3, 99), (3, .istore 2, 4, 99), (4, .iload 2, 5, 3), (5, .aload 0, 6, 99), (6, .getfield 600, 9, 99), (9, .iconst (2), 10, 99), (10, .iaload, 11, 99), (11, .if_icmp .ge 29, 14, 99), (14, .iload 1, 15, 99), (15, .aload 0, 16, 99), (16, .iload 2, 17, 99), (17, .iconst (4), 18, 99), (18, .invokevirtual 97, 21, 99), (21, .iadd, 22, 99), (22, .istore 1, 23, 99), (23, .iinc 2 (1), 26, 99), (26, .goto 4, 29, 99), (29, .iload 1, 30, 99), (30, .ireturn, 31, 99)]
def ac108 : List Instr := [.iconst 0, .istore_n 1, .iconst 0, .istore_n 2, .iload_n 2, .aload_n 0, .getfield 7, .iconst 2, .iaload, .if_icmp .ge 18, .iload_n 1, .aload_n 0, .iload_n 2, .iconst 4, .invokevirtual 44, .iadd, .istore_n 1, .iinc 2 1, .goto (-22), .iload_n 1, .ireturn]
-- 109 CoatedBridgesModel.reasonOf(I)I
def pg109 : List AEnt := [(0, .aload 0, 1, 99), (1, .iload 1, 2, 99), (2, .invokevirtual 103, 5, 99), (5, .ifCond .eq 12, 8, 99), (8, .iconst (1), 9, 99), (9, .goto 57, 12, 99), (12, .aload 0, 13, 99), (13, .iload 1, 14, 99), (14, .iconst (3), 15, 99), (15, .invokevirtual 97, 18, 99), (18, .iconst (100), 20, 99), (20, .if_icmp .ne 27, 23, 99), (23, .iconst (2), 24, 99), (24, .goto 57, 27, 99), (27, .aload 0, 28, 99), (28, .invokevirtual 108, 31, 99), (31, .aload 0, 32, 99), (32, .getfield 600, 35, 99), (35, .iconst (3), 36, 99), (36, .iaload, 37, 99), (37, .if_icmp .lt 44, 40, 99), (40, .iconst (3), 41, 99), (41, .goto 57, 44, 99), (44, .aload 0, 45, 99), (45, .iload 1, 46, 99), (46, .invokevirtual 107, 49, 99), (49, .ifCond .eq 56, 52, 99), (52, .iconst (4), 53, 99), (53, .goto 57, 56, 99), (56, .iconst (0), 57, 99), (57, .ireturn, 58, 99)]
def ac109 : List Instr := [.aload_n 0, .iload_n 1, .invokevirtual 48, .ifCond .eq 7, .iconst 1, .goto 48, .aload_n 0, .iload_n 1, .iconst 3, .invokevirtual 44, .bipush 100, .if_icmp .ne 7, .iconst 2, .goto 33, .aload_n 0, .invokevirtual 59, .aload_n 0, .getfield 7, .iconst 3, .iaload, .if_icmp .lt 7, .iconst 3, .goto 16, .aload_n 0, .iload_n 1, .invokevirtual 63, .ifCond .eq 7, .iconst 4, .goto 4, .iconst 0, .ireturn]
-- 110 CoatedBridgesModel.bestOne()I
def pg110_0 : List AEnt := [(0, .iconst (-1000004), 2, 99), (2, .istore 1, 3, 99), (3, .iconst (0), 4, 99), (4, .istore 2, 5, 99), (5, .iload 2, 6, 3), (6, .aload 0, 7, 99), (7, .getfield 600, 10, 99), (10, .iconst (2), 11, 99), (11, .iaload, 12, 99), (12, .if_icmp .ge 80, 15, 99), (15, .aload 0, 16, 99), (16, .iload 2, 17, 99), (17, .iconst (3), 18, 99), (18, .invokevirtual 97, 21, 99), (21, .aload 0, 22, 99), (22, .getfield 600, 25, 99), (25, .iconst (10), 27, 99), (27, .iaload, 28, 99), (28, .if_icmp .gt 43, 31, 99), (31, .aload 0, 32, 99), (32, .iload 2, 33, 99), (33, .invokevirtual 109, 36, 99), (36, .ifCond .ne 43, 39, 99), (39, .iconst (1), 40, 99), (40, .goto 44, 43, 99), (43, .iconst (0), 44, 99), (44, .istore 3, 45, 99), (45, .iload 3, 46, 99), (46, .ifCond .eq 72, 49, 99), (49, .iload 1, 50, 99), (50, .ifCond .lt 68, 53, 99), (53, .aload 0, 54, 99), (54, .iload 2, 55, 99), (55, .iconst (3), 56, 99), (56, .invokevirtual 97, 59, 99), (59, .aload 0, 60, 99), (60, .iload 1, 61, 99), (61, .iconst (3), 62, 99), (62, .invokevirtual 97, 65, 99), (65, .if_icmp .ge 72, 68, 99)]
def pg110_1 : List AEnt := [(68, .iload 2, 69, 99), (69, .goto 73, 72, 99), (72, .iload 1, 73, 99), (73, .istore 1, 74, 99), (74, .iinc 2 (1), 77, 99), (77, .goto 5, 80, 99), (80, .iload 1, 81, 99), (81, .ireturn, 82, 99)]
def pg110 : List AEnt := pg110_0 ++ (pg110_1)
def ac110_0 : List Instr := [.ldc 55, .istore_n 1, .iconst 0, .istore_n 2, .iload_n 2, .aload_n 0, .getfield 7, .iconst 2, .iaload, .if_icmp .ge 68, .aload_n 0, .iload_n 2, .iconst 3, .invokevirtual 44, .aload_n 0, .getfield 7, .bipush 10, .iaload, .if_icmp .gt 15, .aload_n 0, .iload_n 2, .invokevirtual 67, .ifCond .ne 7, .iconst 1, .goto 4, .iconst 0, .istore_n 3, .iload_n 3, .ifCond .eq 26, .iload_n 1, .ifCond .lt 18, .aload_n 0, .iload_n 2, .iconst 3, .invokevirtual 44, .aload_n 0, .iload_n 1, .iconst 3, .invokevirtual 44, .if_icmp .ge 7]
def ac110_1 : List Instr := [.iload_n 2, .goto 4, .iload_n 1, .istore_n 1, .iinc 2 1, .goto (-72), .iload_n 1, .ireturn]
def ac110 : List Instr := ac110_0 ++ (ac110_1)
-- 111 CoatedBridgesModel.goIsland(I)I
def pg111 : List AEnt := [(0, .aload 0, 1, 99), (1, .getfield 600, 4, 99), (4, .iconst (1), 5, 99), (5, .iaload, 6, 99), (6, .istore 2, 7, 99), (7, .iconst (0), 8, 99), (8, .istore 3, 9, 99), (9, .iload 3, 10, 4), (10, .iconst (5), 11, 99), (11, .if_icmp .ge 27, 14, 99), (14, .aload 0, 15, 99), (15, .iload 2, 16, 99), (16, .iload 3, 17, 99), (17, .iconst (0), 18, 99), (18, .invokevirtual 101, 21, 99), (21, .iinc 3 (1), 24, 99), (24, .goto 9, 27, 99), (27, .aload 0, 28, 99), (28, .iload 2, 29, 99), (29, .iconst (0), 30, 99), (30, .iload 1, 31, 99), (31, .invokevirtual 101, 34, 99), (34, .aload 0, 35, 99), (35, .getfield 600, 38, 99), (38, .iconst (1), 39, 99), (39, .dup2, 40, 99), (40, .iaload, 41, 99), (41, .iconst (1), 42, 99), (42, .iadd, 43, 99), (43, .iastore, 44, 99), (44, .iload 2, 45, 99), (45, .ireturn, 46, 99)]
def ac111 : List Instr := [.aload_n 0, .getfield 7, .iconst 1, .iaload, .istore_n 2, .iconst 0, .istore_n 3, .iload_n 3, .iconst 5, .if_icmp .ge 16, .aload_n 0, .iload_n 2, .iload_n 3, .iconst 0, .invokevirtual 70, .iinc 3 1, .goto (-15), .aload_n 0, .iload_n 2, .iconst 0, .iload_n 1, .invokevirtual 70, .aload_n 0, .getfield 7, .iconst 1, .dup2, .iaload, .iconst 1, .iadd, .iastore, .iload_n 2, .ireturn]
-- 112 CoatedBridgesModel.goBridge(III)I
def pg112_0 : List AEnt := [(0, .aload 0, 1, 99), (1, .getfield 600, 4, 99), (4, .iconst (2), 5, 99), (5, .iaload, 6, 99), (6, .istore 4, 8, 99), (8, .iconst (0), 9, 99), (9, .istore 5, 11, 99), (11, .iload 5, 13, 6), (13, .iconst (8), 15, 99), (15, .if_icmp .ge 33, 18, 99), (18, .aload 0, 19, 99), (19, .iload 4, 21, 99), (21, .iload 5, 23, 99), (23, .iconst (0), 24, 99), (24, .invokevirtual 98, 27, 99), (27, .iinc 5 (1), 30, 99), (30, .goto 11, 33, 99), (33, .aload 0, 34, 99), (34, .iload 4, 36, 99), (36, .iconst (0), 37, 99), (37, .iload 1, 38, 99), (38, .invokevirtual 98, 41, 99), (41, .aload 0, 42, 99), (42, .iload 4, 44, 99), (44, .iconst (1), 45, 99), (45, .iload 2, 46, 99), (46, .invokevirtual 98, 49, 99), (49, .aload 0, 50, 99), (50, .iload 4, 52, 99), (52, .iconst (2), 53, 99), (53, .iload 3, 54, 99), (54, .invokevirtual 98, 57, 99), (57, .aload 0, 58, 99), (58, .iload 4, 60, 99), (60, .iconst (3), 61, 99), (61, .iconst (100), 63, 99), (63, .invokevirtual 98, 66, 99), (66, .aload 0, 67, 99), (67, .getfield 600, 70, 99), (70, .iconst (2), 71, 99)]
def pg112_1 : List AEnt := [(71, .dup2, 72, 99), (72, .iaload, 73, 99), (73, .iconst (1), 74, 99), (74, .iadd, 75, 99), (75, .iastore, 76, 99), (76, .iload 4, 78, 99), (78, .ireturn, 79, 99)]
def pg112 : List AEnt := pg112_0 ++ (pg112_1)
def ac112_0 : List Instr := [.aload_n 0, .getfield 7, .iconst 2, .iaload, .istore 4, .iconst 0, .istore 5, .iload 5, .bipush 8, .if_icmp .ge 18, .aload_n 0, .iload 4, .iload 5, .iconst 0, .invokevirtual 74, .iinc 5 1, .goto (-19), .aload_n 0, .iload 4, .iconst 0, .iload_n 1, .invokevirtual 74, .aload_n 0, .iload 4, .iconst 1, .iload_n 2, .invokevirtual 74, .aload_n 0, .iload 4, .iconst 2, .iload_n 3, .invokevirtual 74, .aload_n 0, .iload 4, .iconst 3, .bipush 100, .invokevirtual 74, .aload_n 0, .getfield 7, .iconst 2]
def ac112_1 : List Instr := [.dup2, .iaload, .iconst 1, .iadd, .iastore, .iload 4, .ireturn]
def ac112 : List Instr := ac112_0 ++ (ac112_1)
-- 113 CoatedBridgesModel.goSend(I)I
def pg113 : List AEnt := [(0, .aload 0, 1, 99), (1, .iload 1, 2, 99), (2, .invokevirtual 107, 5, 99), (5, .istore 2, 6, 99), (6, .aload 0, 7, 99), (7, .iload 1, 8, 99), (8, .iconst (4), 9, 99), (9, .iconst (1), 10, 99), (10, .invokevirtual 98, 13, 99), (13, .aload 0, 14, 99), (14, .iload 1, 15, 99), (15, .iconst (5), 16, 99), (16, .iconst (1), 17, 99), (17, .invokevirtual 99, 20, 99), (20, .iload 2, 21, 99), (21, .ireturn, 22, 99)]
def ac113 : List Instr := [.aload_n 0, .iload_n 1, .invokevirtual 63, .istore_n 2, .aload_n 0, .iload_n 1, .iconst 4, .iconst 1, .invokevirtual 74, .aload_n 0, .iload_n 1, .iconst 5, .iconst 1, .invokevirtual 77, .iload_n 2, .ireturn]
-- 114 CoatedBridgesModel.goRecall(I)I
def pg114 : List AEnt := [(0, .aload 0, 1, 99), (1, .iload 1, 2, 99), (2, .iconst (4), 3, 99), (3, .iconst (0), 4, 99), (4, .invokevirtual 98, 7, 99), (7, .aload 0, 8, 99), (8, .iload 1, 9, 99), (9, .iconst (3), 10, 99), (10, .invokevirtual 97, 13, 99), (13, .ireturn, 14, 99)]
def ac114 : List Instr := [.aload_n 0, .iload_n 1, .iconst 4, .iconst 0, .invokevirtual 74, .aload_n 0, .iload_n 1, .iconst 3, .invokevirtual 44, .ireturn]
-- 115 CoatedBridgesModel.goPay(I)I
def pg115 : List AEnt := [(0, .aload 0, 1, 99), (1, .getfield 600, 4, 99), (4, .iconst (11), 6, 99), (6, .dup2, 7, 99), (7, .iaload, 8, 99), (8, .iload 1, 9, 99), (9, .iadd, 10, 99), (10, .iastore, 11, 99), (11, .aload 0, 12, 99), (12, .getfield 600, 15, 99), (15, .iconst (14), 17, 99), (17, .dup2, 18, 99), (18, .iaload, 19, 99), (19, .iload 1, 20, 99), (20, .iadd, 21, 99), (21, .iastore, 22, 99), (22, .aload 0, 23, 99), (23, .getfield 600, 26, 99), (26, .iconst (11), 28, 99), (28, .iaload, 29, 99), (29, .ireturn, 30, 99)]
def ac115 : List Instr := [.aload_n 0, .getfield 7, .bipush 11, .dup2, .iaload, .iload_n 1, .iadd, .iastore, .aload_n 0, .getfield 7, .bipush 14, .dup2, .iaload, .iload_n 1, .iadd, .iastore, .aload_n 0, .getfield 7, .bipush 11, .iaload, .ireturn]
-- 116 CoatedBridgesModel.paints(I)V
def pg116_0 : List AEnt := [(0, .aload 0, 1, 99), (1, .getfield 600, 4, 99), (4, .iconst (5), 5, 99), (5, .iaload, 6, 99), (6, .istore 2, 7, 99), (7, .aload 0, 8, 99), (8, .getfield 600, 11, 99), (11, .iconst (11), 13, 99), (13, .iaload, 14, 99), (14, .iload 2, 15, 99), (15, .if_icmp .ge 19, 18, 99), (18, .return_, 19, 99), (19, .aload 0, 20, 99), (20, .getfield 600, 23, 99), (23, .iconst (11), 25, 99), (25, .dup2, 26, 99), (26, .iaload, 27, 99), (27, .iload 2, 28, 99), (28, .isub, 29, 99), (29, .iastore, 30, 99), (30, .aload 0, 31, 99), (31, .getfield 600, 34, 99), (34, .iconst (12), 36, 99), (36, .dup2, 37, 99), (37, .iaload, 38, 99), (38, .iload 2, 39, 99), (39, .iadd, 40, 99), (40, .iastore, 41, 99), (41, .aload 0, 42, 99), (42, .iload 1, 43, 99), (43, .iconst (7), 45, 99), (45, .iload 2, 46, 99), (46, .invokevirtual 99, 49, 99), (49, .aload 0, 50, 99), (50, .iload 1, 51, 99), (51, .iconst (3), 52, 99), (52, .aload 0, 53, 99), (53, .getfield 600, 56, 99), (56, .iconst (4), 57, 99), (57, .iaload, 58, 99)]
def pg116_1 : List AEnt := [(58, .invokevirtual 99, 61, 99), (61, .aload 0, 62, 99), (62, .iload 1, 63, 99), (63, .iconst (3), 64, 99), (64, .invokevirtual 97, 67, 99), (67, .iconst (100), 69, 99), (69, .if_icmp .lt 87, 72, 99), (72, .aload 0, 73, 99), (73, .iload 1, 74, 99), (74, .iconst (3), 75, 99), (75, .iconst (100), 77, 99), (77, .invokevirtual 98, 80, 99), (80, .aload 0, 81, 99), (81, .iload 1, 82, 99), (82, .iconst (4), 83, 99), (83, .iconst (0), 84, 99), (84, .invokevirtual 98, 87, 99), (87, .return_, 88, 99)]
def pg116 : List AEnt := pg116_0 ++ (pg116_1)
def ac116_0 : List Instr := [.aload_n 0, .getfield 7, .iconst 5, .iaload, .istore_n 2, .aload_n 0, .getfield 7, .bipush 11, .iaload, .iload_n 2, .if_icmp .ge 4, .return_, .aload_n 0, .getfield 7, .bipush 11, .dup2, .iaload, .iload_n 2, .isub, .iastore, .aload_n 0, .getfield 7, .bipush 12, .dup2, .iaload, .iload_n 2, .iadd, .iastore, .aload_n 0, .iload_n 1, .bipush 7, .iload_n 2, .invokevirtual 77, .aload_n 0, .iload_n 1, .iconst 3, .aload_n 0, .getfield 7, .iconst 4, .iaload]
def ac116_1 : List Instr := [.invokevirtual 77, .aload_n 0, .iload_n 1, .iconst 3, .invokevirtual 44, .bipush 100, .if_icmp .lt 18, .aload_n 0, .iload_n 1, .iconst 3, .bipush 100, .invokevirtual 74, .aload_n 0, .iload_n 1, .iconst 4, .iconst 0, .invokevirtual 74, .return_]
def ac116 : List Instr := ac116_0 ++ (ac116_1)
-- 117 CoatedBridgesModel.wears(I)V
def pg117 : List AEnt := [(0, .aload 0, 1, 99), (1, .iload 1, 2, 99), (2, .iconst (3), 3, 99), (3, .invokevirtual 97, 6, 99), (6, .aload 0, 7, 99), (7, .iload 1, 8, 99), (8, .iconst (2), 9, 99), (9, .invokevirtual 97, 12, 99), (12, .isub, 13, 99), (13, .istore 2, 14, 99), (14, .aload 0, 15, 99), (15, .iload 1, 16, 99), (16, .iconst (3), 17, 99), (17, .iload 2, 18, 99), (18, .ifCond .ge 25, 21, 99), (21, .iconst (0), 22, 99), (22, .goto 26, 25, 99), (25, .iload 2, 26, 99), (26, .invokevirtual 98, 29, 99), (29, .return_, 30, 99)]
def ac117 : List Instr := [.aload_n 0, .iload_n 1, .iconst 3, .invokevirtual 44, .aload_n 0, .iload_n 1, .iconst 2, .invokevirtual 44, .isub, .istore_n 2, .aload_n 0, .iload_n 1, .iconst 3, .iload_n 2, .ifCond .ge 7, .iconst 0, .goto 4, .iload_n 2, .invokevirtual 74, .return_]
-- 118 CoatedBridgesModel.waits(IZ)I
def pg118_0 : List AEnt := [(0, .aload 0, 1, 99), (1, .iload 1, 2, 99), (2, .iconst (0), 3, 99), (3, .invokevirtual 100, 6, 99), (6, .istore 3, 7, 99), (7, .iload 2, 8, 99), (8, .ifCond .eq 20, 11, 99), (11, .aload 0, 12, 99), (12, .iload 1, 13, 99), (13, .iconst (1), 14, 99), (14, .iconst (0), 15, 99), (15, .invokevirtual 101, 18, 99), (18, .iconst (0), 19, 99), (19, .ireturn, 20, 99), (20, .aload 0, 21, 99), (21, .getfield 600, 24, 99), (24, .iconst (6), 26, 99), (26, .iaload, 27, 99), (27, .iconst (1), 28, 99), (28, .if_icmp .ne 79, 31, 99), (31, .aload 0, 32, 99), (32, .getfield 600, 35, 99), (35, .iconst (11), 37, 99), (37, .iaload, 38, 99), (38, .iload 3, 39, 99), (39, .if_icmp .lt 79, 42, 99), (42, .aload 0, 43, 99), (43, .getfield 600, 46, 99), (46, .iconst (11), 48, 99), (48, .dup2, 49, 99), (49, .iaload, 50, 99), (50, .iload 3, 51, 99), (51, .isub, 52, 99), (52, .iastore, 53, 99), (53, .aload 0, 54, 99), (54, .getfield 600, 57, 99), (57, .iconst (13), 59, 99), (59, .dup2, 60, 99), (60, .iaload, 61, 99), (61, .iload 3, 62, 99)]
def pg118_1 : List AEnt := [(62, .iadd, 63, 99), (63, .iastore, 64, 99), (64, .aload 0, 65, 99), (65, .iload 1, 66, 99), (66, .iconst (4), 67, 99), (67, .invokevirtual 102, 70, 99), (70, .aload 0, 71, 99), (71, .iload 1, 72, 99), (72, .iconst (1), 73, 99), (73, .iconst (0), 74, 99), (74, .invokevirtual 101, 77, 99), (77, .iconst (0), 78, 99), (78, .ireturn, 79, 99), (79, .aload 0, 80, 99), (80, .iload 1, 81, 99), (81, .iconst (1), 82, 99), (82, .invokevirtual 102, 85, 99), (85, .aload 0, 86, 99), (86, .iload 1, 87, 99), (87, .iconst (1), 88, 99), (88, .invokevirtual 100, 91, 99), (91, .istore 4, 93, 99), (93, .aload 0, 94, 99), (94, .iload 1, 95, 99), (95, .iconst (3), 96, 99), (96, .iload 4, 98, 99), (98, .aload 0, 99, 99), (99, .iload 1, 100, 99), (100, .iconst (3), 101, 99), (101, .invokevirtual 100, 104, 99), (104, .if_icmp .le 112, 107, 99), (107, .iload 4, 109, 99), (109, .goto 118, 112, 99), (112, .aload 0, 113, 99), (113, .iload 1, 114, 99), (114, .iconst (3), 115, 99), (115, .invokevirtual 100, 118, 99), (118, .invokevirtual 101, 121, 99), (121, .iload 4, 123, 99), (123, .aload 0, 124, 99)]
def pg118_2 : List AEnt := [(124, .getfield 600, 127, 99), (127, .iconst (7), 129, 99), (129, .iaload, 130, 99), (130, .if_icmp .gt 135, 133, 99), (133, .iconst (0), 134, 99), (134, .ireturn, 135, 99), (135, .aload 0, 136, 99), (136, .iload 1, 137, 99), (137, .iconst (2), 138, 99), (138, .invokevirtual 102, 141, 99), (141, .iconst (1), 142, 99), (142, .ireturn, 143, 99)]
def pg118 : List AEnt := pg118_0 ++ (pg118_1 ++ (pg118_2))
def ac118_0 : List Instr := [.aload_n 0, .iload_n 1, .iconst 0, .invokevirtual 80, .istore_n 3, .iload_n 2, .ifCond .eq 12, .aload_n 0, .iload_n 1, .iconst 1, .iconst 0, .invokevirtual 70, .iconst 0, .ireturn, .aload_n 0, .getfield 7, .bipush 6, .iaload, .iconst 1, .if_icmp .ne 51, .aload_n 0, .getfield 7, .bipush 11, .iaload, .iload_n 3, .if_icmp .lt 40, .aload_n 0, .getfield 7, .bipush 11, .dup2, .iaload, .iload_n 3, .isub, .iastore, .aload_n 0, .getfield 7, .bipush 13, .dup2, .iaload, .iload_n 3]
def ac118_1 : List Instr := [.iadd, .iastore, .aload_n 0, .iload_n 1, .iconst 4, .invokevirtual 83, .aload_n 0, .iload_n 1, .iconst 1, .iconst 0, .invokevirtual 70, .iconst 0, .ireturn, .aload_n 0, .iload_n 1, .iconst 1, .invokevirtual 83, .aload_n 0, .iload_n 1, .iconst 1, .invokevirtual 80, .istore 4, .aload_n 0, .iload_n 1, .iconst 3, .iload 4, .aload_n 0, .iload_n 1, .iconst 3, .invokevirtual 80, .if_icmp .le 8, .iload 4, .goto 9, .aload_n 0, .iload_n 1, .iconst 3, .invokevirtual 80, .invokevirtual 70, .iload 4, .aload_n 0]
def ac118_2 : List Instr := [.getfield 7, .bipush 7, .iaload, .if_icmp .gt 5, .iconst 0, .ireturn, .aload_n 0, .iload_n 1, .iconst 2, .invokevirtual 83, .iconst 1, .ireturn]
def ac118 : List Instr := ac118_0 ++ (ac118_1 ++ (ac118_2))
-- 119 CoatedBridgesModel.books(I)V
def pg119_0 : List AEnt := [(0, .iconst (31), 2, 99), (2, .istore 2, 3, 99), (3, .iload 2, 4, 3), (4, .iconst (17), 6, 99), (6, .if_icmp .le 29, 9, 99), (9, .aload 0, 10, 99), (10, .getfield 600, 13, 99), (13, .iload 2, 14, 99), (14, .aload 0, 15, 99), (15, .getfield 600, 18, 99), (18, .iload 2, 19, 99), (19, .iconst (2), 20, 99), (20, .isub, 21, 99), (21, .iaload, 22, 99), (22, .iastore, 23, 99), (23, .iinc 2 (-1), 26, 99), (26, .goto 3, 29, 99), (29, .aload 0, 30, 99), (30, .getfield 600, 33, 99), (33, .iconst (16), 35, 99), (35, .aload 0, 36, 99), (36, .getfield 600, 39, 99), (39, .iconst (0), 40, 99), (40, .iaload, 41, 99), (41, .iastore, 42, 99), (42, .aload 0, 43, 99), (43, .getfield 600, 46, 99), (46, .iconst (17), 48, 99), (48, .iload 1, 49, 99), (49, .iastore, 50, 99), (50, .aload 0, 51, 99), (51, .getfield 600, 54, 99), (54, .iconst (15), 56, 99), (56, .dup2, 57, 99), (57, .iaload, 58, 99), (58, .aload 0, 59, 99), (59, .getfield 600, 62, 99), (62, .iconst (15), 64, 99), (64, .iaload, 65, 99), (65, .iconst (8), 67, 99)]
def pg119_1 : List AEnt := [(67, .if_icmp .ge 74, 70, 99), (70, .iconst (1), 71, 99), (71, .goto 75, 74, 99), (74, .iconst (0), 75, 99), (75, .iadd, 76, 99), (76, .iastore, 77, 99), (77, .return_, 78, 99)]
def pg119 : List AEnt := pg119_0 ++ (pg119_1)
def ac119_0 : List Instr := [.bipush 31, .istore_n 2, .iload_n 2, .bipush 17, .if_icmp .le 23, .aload_n 0, .getfield 7, .iload_n 2, .aload_n 0, .getfield 7, .iload_n 2, .iconst 2, .isub, .iaload, .iastore, .iinc 2 (-1), .goto (-23), .aload_n 0, .getfield 7, .bipush 16, .aload_n 0, .getfield 7, .iconst 0, .iaload, .iastore, .aload_n 0, .getfield 7, .bipush 17, .iload_n 1, .iastore, .aload_n 0, .getfield 7, .bipush 15, .dup2, .iaload, .aload_n 0, .getfield 7, .bipush 15, .iaload, .bipush 8]
def ac119_1 : List Instr := [.if_icmp .ge 7, .iconst 1, .goto 4, .iconst 0, .iadd, .iastore, .return_]
def ac119 : List Instr := ac119_0 ++ (ac119_1)
-- 120 CoatedBridgesModel.endsDay()I
def pg120_0 : List AEnt := [(0, .iconst (0), 1, 99), (1, .istore 1, 2, 99), (2, .iload 1, 3, 2), (3, .aload 0, 4, 99), (4, .getfield 600, 7, 99), (7, .iconst (2), 8, 99), (8, .iaload, 9, 99), (9, .if_icmp .ge 29, 12, 99), (12, .aload 0, 13, 99), (13, .getfield 607, 16, 99), (16, .iload 1, 17, 99), (17, .aload 0, 18, 99), (18, .iload 1, 19, 99), (19, .invokevirtual 104, 22, 99), (22, .bastore, 23, 99), (23, .iinc 1 (1), 26, 99), (26, .goto 2, 29, 99), (29, .iconst (0), 30, 99), (30, .istore 1, 31, 99), (31, .iload 1, 32, 2), (32, .aload 0, 33, 99), (33, .getfield 600, 36, 99), (36, .iconst (2), 37, 99), (37, .iaload, 38, 99), (38, .if_icmp .ge 60, 41, 99), (41, .aload 0, 42, 99), (42, .iload 1, 43, 99), (43, .invokevirtual 103, 46, 99), (46, .ifCond .eq 54, 49, 99), (49, .aload 0, 50, 99), (50, .iload 1, 51, 99), (51, .invokevirtual 116, 54, 99), (54, .iinc 1 (1), 57, 99), (57, .goto 31, 60, 99), (60, .iconst (0), 61, 99), (61, .istore 1, 62, 99), (62, .iload 1, 63, 2), (63, .aload 0, 64, 99), (64, .getfield 600, 67, 99), (67, .iconst (2), 68, 99)]
def pg120_1 : List AEnt := [(68, .iaload, 69, 99), (69, .if_icmp .ge 112, 72, 99), (72, .aload 0, 73, 99), (73, .getfield 607, 76, 99), (76, .iload 1, 77, 99), (77, .baload, 78, 99), (78, .ifCond .eq 86, 81, 99), (81, .aload 0, 82, 99), (82, .iload 1, 83, 99), (83, .invokevirtual 117, 86, 99), (86, .aload 0, 87, 99), (87, .iload 1, 88, 99), (88, .iconst (6), 90, 99), (90, .aload 0, 91, 99), (91, .iload 1, 92, 99), (92, .invokevirtual 104, 95, 99), (95, .ifCond .eq 102, 98, 99), (98, .iconst (0), 99, 99), (99, .goto 103, 102, 99), (102, .iconst (1), 103, 99), (103, .invokevirtual 99, 106, 99), (106, .iinc 1 (1), 109, 99), (109, .goto 62, 112, 99), (112, .aload 0, 113, 99), (113, .iconst (0), 114, 99), (114, .iconst (-1000004), 116, 99), (116, .invokevirtual 106, 119, 99), (119, .istore 1, 120, 99), (120, .iconst (0), 121, 99), (121, .istore 2, 122, 99), (122, .iconst (1), 123, 99), (123, .istore 3, 124, 99), (124, .iload 3, 125, 4), (125, .aload 0, 126, 99), (126, .getfield 600, 129, 99), (129, .iconst (1), 130, 99), (130, .iaload, 131, 99), (131, .if_icmp .ge 162, 134, 99), (134, .iload 2, 135, 99), (135, .aload 0, 136, 99)]
def pg120_2 : List AEnt := [(136, .iload 3, 137, 99), (137, .iload 1, 138, 99), (138, .iload 3, 139, 99), (139, .ishr, 140, 99), (140, .iconst (1), 141, 99), (141, .iand, 142, 99), (142, .iconst (1), 143, 99), (143, .if_icmp .ne 150, 146, 99), (146, .iconst (1), 147, 99), (147, .goto 151, 150, 99), (150, .iconst (0), 151, 99), (151, .invokevirtual 118, 154, 99), (154, .iadd, 155, 99), (155, .istore 2, 156, 99), (156, .iinc 3 (1), 159, 99), (159, .goto 124, 162, 99), (162, .iload 2, 163, 99), (163, .ifCond .le 171, 166, 99), (166, .aload 0, 167, 99), (167, .iload 2, 168, 99), (168, .invokevirtual 119, 171, 99), (171, .aload 0, 172, 99), (172, .getfield 600, 175, 99), (175, .iconst (0), 176, 99), (176, .dup2, 177, 99), (177, .iaload, 178, 99), (178, .iconst (1), 179, 99), (179, .iadd, 180, 99), (180, .iastore, 181, 99), (181, .aload 0, 182, 99), (182, .getfield 600, 185, 99), (185, .iconst (11), 187, 99), (187, .dup2, 188, 99), (188, .iaload, 189, 99), (189, .aload 0, 190, 99), (190, .getfield 600, 193, 99), (193, .iconst (8), 195, 99), (195, .iaload, 196, 99), (196, .iadd, 197, 99), (197, .iastore, 198, 99)]
def pg120_3 : List AEnt := [(198, .aload 0, 199, 99), (199, .getfield 600, 202, 99), (202, .iconst (14), 204, 99), (204, .dup2, 205, 99), (205, .iaload, 206, 99), (206, .aload 0, 207, 99), (207, .getfield 600, 210, 99), (210, .iconst (8), 212, 99), (212, .iaload, 213, 99), (213, .iadd, 214, 99), (214, .iastore, 215, 99), (215, .aload 0, 216, 99), (216, .getfield 600, 219, 99), (219, .iconst (9), 221, 99), (221, .iaload, 222, 99), (222, .iconst (1), 223, 99), (223, .if_icmp .ne 233, 226, 99), (226, .aload 0, 227, 99), (227, .invokevirtual 110, 230, 99), (230, .goto 235, 233, 99), (233, .iconst (-1000004), 235, 99), (235, .istore 3, 236, 99), (236, .iload 3, 237, 4), (237, .ifCond .lt 255, 240, 99), (240, .aload 0, 241, 99), (241, .iload 3, 242, 99), (242, .invokevirtual 113, 245, 99), (245, .istore 4, 247, 99), (247, .aload 0, 248, 99), (248, .invokevirtual 110, 251, 99), (251, .istore 3, 252, 99), (252, .goto 236, 255, 99), (255, .iload 2, 256, 99), (256, .ireturn, 257, 99)]
def pg120 : List AEnt := pg120_0 ++ (pg120_1 ++ (pg120_2 ++ (pg120_3)))
def ac120_0 : List Instr := [.iconst 0, .istore_n 1, .iload_n 1, .aload_n 0, .getfield 7, .iconst 2, .iaload, .if_icmp .ge 20, .aload_n 0, .getfield 25, .iload_n 1, .aload_n 0, .iload_n 1, .invokevirtual 52, .bastore, .iinc 1 1, .goto (-24), .iconst 0, .istore_n 1, .iload_n 1, .aload_n 0, .getfield 7, .iconst 2, .iaload, .if_icmp .ge 22, .aload_n 0, .iload_n 1, .invokevirtual 48, .ifCond .eq 8, .aload_n 0, .iload_n 1, .invokevirtual 87, .iinc 1 1, .goto (-26), .iconst 0, .istore_n 1, .iload_n 1, .aload_n 0, .getfield 7, .iconst 2]
def ac120_1 : List Instr := [.iaload, .if_icmp .ge 43, .aload_n 0, .getfield 25, .iload_n 1, .baload, .ifCond .eq 8, .aload_n 0, .iload_n 1, .invokevirtual 91, .aload_n 0, .iload_n 1, .bipush 6, .aload_n 0, .iload_n 1, .invokevirtual 52, .ifCond .eq 7, .iconst 0, .goto 4, .iconst 1, .invokevirtual 77, .iinc 1 1, .goto (-47), .aload_n 0, .iconst 0, .ldc 55, .invokevirtual 56, .istore_n 1, .iconst 0, .istore_n 2, .iconst 1, .istore_n 3, .iload_n 3, .aload_n 0, .getfield 7, .iconst 1, .iaload, .if_icmp .ge 31, .iload_n 2, .aload_n 0]
def ac120_2 : List Instr := [.iload_n 3, .iload_n 1, .iload_n 3, .ishr, .iconst 1, .iand, .iconst 1, .if_icmp .ne 7, .iconst 1, .goto 4, .iconst 0, .invokevirtual 94, .iadd, .istore_n 2, .iinc 3 1, .goto (-35), .iload_n 2, .ifCond .le 8, .aload_n 0, .iload_n 2, .invokevirtual 98, .aload_n 0, .getfield 7, .iconst 0, .dup2, .iaload, .iconst 1, .iadd, .iastore, .aload_n 0, .getfield 7, .bipush 11, .dup2, .iaload, .aload_n 0, .getfield 7, .bipush 8, .iaload, .iadd, .iastore]
def ac120_3 : List Instr := [.aload_n 0, .getfield 7, .bipush 14, .dup2, .iaload, .aload_n 0, .getfield 7, .bipush 8, .iaload, .iadd, .iastore, .aload_n 0, .getfield 7, .bipush 9, .iaload, .iconst 1, .if_icmp .ne 10, .aload_n 0, .invokevirtual 101, .goto 5, .ldc 55, .istore_n 3, .iload_n 3, .ifCond .lt 18, .aload_n 0, .iload_n 3, .invokevirtual 104, .istore 4, .aload_n 0, .invokevirtual 101, .istore_n 3, .goto (-16), .iload_n 2, .ireturn]
def ac120 : List Instr := ac120_0 ++ (ac120_1 ++ (ac120_2 ++ (ac120_3)))
-- 121 CoatedBridgesModel.endsDays(I)I
def pg121 : List AEnt := [(0, .iconst (0), 1, 99), (1, .istore 2, 2, 99), (2, .iconst (0), 3, 99), (3, .istore 3, 4, 99), (4, .iload 3, 5, 4), (5, .iload 1, 6, 99), (6, .if_icmp .ge 22, 9, 99), (9, .iload 2, 10, 99), (10, .aload 0, 11, 99), (11, .invokevirtual 120, 14, 99), (14, .iadd, 15, 99), (15, .istore 2, 16, 99), (16, .iinc 3 (1), 19, 99), (19, .goto 4, 22, 99), (22, .iload 2, 23, 99), (23, .ireturn, 24, 99)]
def ac121 : List Instr := [.iconst 0, .istore_n 2, .iconst 0, .istore_n 3, .iload_n 3, .iload_n 1, .if_icmp .ge 16, .iload_n 2, .aload_n 0, .invokevirtual 107, .iadd, .istore_n 2, .iinc 3 1, .goto (-15), .iload_n 2, .ireturn]
-- 122 CoatedBridgesModel.errorIsland(I)I
def pg122 : List AEnt := [(0, .iload 1, 1, 99), (1, .iconst (0), 2, 99), (2, .iconst (99), 4, 99), (4, .invokestatic 92, 7, 99), (7, .ifCond .ne 15, 10, 99), (10, .iconst (-1000001), 12, 99), (12, .goto 32, 15, 99), (15, .aload 0, 16, 99), (16, .getfield 600, 19, 99), (19, .iconst (1), 20, 99), (20, .iaload, 21, 99), (21, .iconst (8), 23, 99), (23, .if_icmp .ne 31, 26, 99), (26, .iconst (-1000003), 28, 99), (28, .goto 32, 31, 99), (31, .iconst (0), 32, 99), (32, .ireturn, 33, 99)]
def ac122 : List Instr := [.iload_n 1, .iconst 0, .bipush 99, .invokestatic 40, .ifCond .ne 8, .ldc 110, .goto 20, .aload_n 0, .getfield 7, .iconst 1, .iaload, .bipush 8, .if_icmp .ne 8, .ldc 111, .goto 4, .iconst 0, .ireturn]
-- 123 CoatedBridgesModel.errorBridge(III)I
def pg123 : List AEnt := [(0, .aload 0, 1, 99), (1, .iload 1, 2, 99), (2, .invokevirtual 95, 5, 99), (5, .ifCond .eq 35, 8, 99), (8, .aload 0, 9, 99), (9, .iload 2, 10, 99), (10, .invokevirtual 95, 13, 99), (13, .ifCond .eq 35, 16, 99), (16, .iload 1, 17, 99), (17, .iload 2, 18, 99), (18, .if_icmp .eq 35, 21, 99), (21, .iload 3, 22, 99), (22, .iconst (1), 23, 99), (23, .iconst (9), 25, 99), (25, .invokestatic 92, 28, 99), (28, .ifCond .eq 35, 31, 99), (31, .iconst (1), 32, 99), (32, .goto 36, 35, 99), (35, .iconst (0), 36, 99), (36, .istore 4, 38, 99), (38, .iload 4, 40, 99), (40, .ifCond .ne 48, 43, 99), (43, .iconst (-1000001), 45, 99), (45, .goto 65, 48, 99), (48, .aload 0, 49, 99), (49, .getfield 600, 52, 99), (52, .iconst (2), 53, 99), (53, .iaload, 54, 99), (54, .iconst (14), 56, 99), (56, .if_icmp .ne 64, 59, 99), (59, .iconst (-1000003), 61, 99), (61, .goto 65, 64, 99), (64, .iconst (0), 65, 99), (65, .ireturn, 66, 99)]
def ac123 : List Instr := [.aload_n 0, .iload_n 1, .invokevirtual 112, .ifCond .eq 30, .aload_n 0, .iload_n 2, .invokevirtual 112, .ifCond .eq 22, .iload_n 1, .iload_n 2, .if_icmp .eq 17, .iload_n 3, .iconst 1, .bipush 9, .invokestatic 40, .ifCond .eq 7, .iconst 1, .goto 4, .iconst 0, .istore 4, .iload 4, .ifCond .ne 8, .ldc 110, .goto 20, .aload_n 0, .getfield 7, .iconst 2, .iaload, .bipush 14, .if_icmp .ne 8, .ldc 111, .goto 4, .iconst 0, .ireturn]
-- 124 CoatedBridgesModel.errorSend(II)I
def pg124 : List AEnt := [(0, .aload 0, 1, 99), (1, .iload 1, 2, 99), (2, .invokevirtual 96, 5, 99), (5, .ifCond .eq 17, 8, 99), (8, .iload 2, 9, 99), (9, .iconst (0), 10, 99), (10, .iconst (1), 11, 99), (11, .invokestatic 92, 14, 99), (14, .ifCond .ne 20, 17, 99), (17, .iconst (-1000001), 19, 99), (19, .ireturn, 20, 99), (20, .aload 0, 21, 99), (21, .iload 1, 22, 99), (22, .invokevirtual 109, 25, 99), (25, .istore 3, 26, 99), (26, .iload 3, 27, 99), (27, .ifCond .eq 40, 30, 99), (30, .iload 3, 31, 99), (31, .iconst (4), 32, 99), (32, .if_icmp .ne 44, 35, 99), (35, .iload 2, 36, 99), (36, .iconst (1), 37, 99), (37, .if_icmp .ne 44, 40, 99), (40, .iconst (0), 41, 99), (41, .goto 46, 44, 99), (44, .iconst (-1000002), 46, 99), (46, .ireturn, 47, 99)]
def ac124 : List Instr := [.aload_n 0, .iload_n 1, .invokevirtual 115, .ifCond .eq 12, .iload_n 2, .iconst 0, .iconst 1, .invokestatic 40, .ifCond .ne 6, .ldc 110, .ireturn, .aload_n 0, .iload_n 1, .invokevirtual 67, .istore_n 3, .iload_n 3, .ifCond .eq 13, .iload_n 3, .iconst 4, .if_icmp .ne 12, .iload_n 2, .iconst 1, .if_icmp .ne 7, .iconst 0, .goto 5, .ldc 118, .ireturn]
-- 125 CoatedBridgesModel.errorRecall(I)I
def pg125 : List AEnt := [(0, .aload 0, 1, 99), (1, .iload 1, 2, 99), (2, .invokevirtual 96, 5, 99), (5, .ifCond .ne 13, 8, 99), (8, .iconst (-1000001), 10, 99), (10, .goto 27, 13, 99), (13, .aload 0, 14, 99), (14, .iload 1, 15, 99), (15, .invokevirtual 103, 18, 99), (18, .ifCond .eq 25, 21, 99), (21, .iconst (0), 22, 99), (22, .goto 27, 25, 99), (25, .iconst (-1000002), 27, 99), (27, .ireturn, 28, 99)]
def ac125 : List Instr := [.aload_n 0, .iload_n 1, .invokevirtual 115, .ifCond .ne 8, .ldc 110, .goto 17, .aload_n 0, .iload_n 1, .invokevirtual 48, .ifCond .eq 7, .iconst 0, .goto 5, .ldc 118, .ireturn]
-- 126 CoatedBridgesModel.errorPay(I)I
def pg126 : List AEnt := [(0, .iload 1, 1, 99), (1, .iconst (1), 2, 99), (2, .iconst (999), 5, 99), (5, .invokestatic 92, 8, 99), (8, .ifCond .ne 16, 11, 99), (11, .iconst (-1000001), 13, 99), (13, .goto 36, 16, 99), (16, .aload 0, 17, 99), (17, .getfield 600, 20, 99), (20, .iconst (11), 22, 99), (22, .iaload, 23, 99), (23, .iload 1, 24, 99), (24, .iadd, 25, 99), (25, .iconst (999999), 27, 99), (27, .if_icmp .le 35, 30, 99), (30, .iconst (-1000003), 32, 99), (32, .goto 36, 35, 99), (35, .iconst (0), 36, 99), (36, .ireturn, 37, 99)]
def ac126 : List Instr := [.iload_n 1, .iconst 1, .sipush 999, .invokestatic 40, .ifCond .ne 8, .ldc 110, .goto 23, .aload_n 0, .getfield 7, .bipush 11, .iaload, .iload_n 1, .iadd, .ldc 119, .if_icmp .le 8, .ldc 111, .goto 4, .iconst 0, .ireturn]
-- 127 CoatedBridgesModel.errorDays(I)I
def pg127 : List AEnt := [(0, .iload 1, 1, 99), (1, .iconst (1), 2, 99), (2, .iconst (99), 4, 99), (4, .invokestatic 92, 7, 99), (7, .ifCond .ne 15, 10, 99), (10, .iconst (-1000001), 12, 99), (12, .goto 35, 15, 99), (15, .aload 0, 16, 99), (16, .getfield 600, 19, 99), (19, .iconst (0), 20, 99), (20, .iaload, 21, 99), (21, .iload 1, 22, 99), (22, .iadd, 23, 99), (23, .iconst (9999), 26, 99), (26, .if_icmp .le 34, 29, 99), (29, .iconst (-1000003), 31, 99), (31, .goto 35, 34, 99), (34, .iconst (0), 35, 99), (35, .ireturn, 36, 99)]
def ac127 : List Instr := [.iload_n 1, .iconst 1, .bipush 99, .invokestatic 40, .ifCond .ne 8, .ldc 110, .goto 23, .aload_n 0, .getfield 7, .iconst 0, .iaload, .iload_n 1, .iadd, .sipush 9999, .if_icmp .le 8, .ldc 111, .goto 4, .iconst 0, .ireturn]
-- 128 CoatedBridgesModel.island(I)I
def pg128 : List AEnt := [(0, .aload 0, 1, 99), (1, .iload 1, 2, 99), (2, .invokevirtual 122, 5, 99), (5, .istore 2, 6, 99), (6, .iload 2, 7, 99), (7, .ifCond .ge 12, 10, 99), (10, .iload 2, 11, 99), (11, .ireturn, 12, 99), (12, .aload 0, 13, 99), (13, .invokevirtual 94, 16, 99), (16, .aload 0, 17, 99), (17, .iload 1, 18, 99), (18, .invokevirtual 111, 21, 99), (21, .ireturn, 22, 99)]
def ac128 : List Instr := [.aload_n 0, .iload_n 1, .invokevirtual 120, .istore_n 2, .iload_n 2, .ifCond .ge 5, .iload_n 2, .ireturn, .aload_n 0, .invokevirtual 123, .aload_n 0, .iload_n 1, .invokevirtual 126, .ireturn]
-- 129 CoatedBridgesModel.bridge(III)I
def pg129 : List AEnt := [(0, .aload 0, 1, 99), (1, .iload 1, 2, 99), (2, .iload 2, 3, 99), (3, .iload 3, 4, 99), (4, .invokevirtual 123, 7, 99), (7, .istore 4, 9, 99), (9, .iload 4, 11, 99), (11, .ifCond .ge 17, 14, 99), (14, .iload 4, 16, 99), (16, .ireturn, 17, 99), (17, .aload 0, 18, 99), (18, .invokevirtual 94, 21, 99), (21, .aload 0, 22, 99), (22, .iload 1, 23, 99), (23, .iload 2, 24, 99), (24, .iload 3, 25, 99), (25, .invokevirtual 112, 28, 99), (28, .ireturn, 29, 99)]
def ac129 : List Instr := [.aload_n 0, .iload_n 1, .iload_n 2, .iload_n 3, .invokevirtual 129, .istore 4, .iload 4, .ifCond .ge 6, .iload 4, .ireturn, .aload_n 0, .invokevirtual 123, .aload_n 0, .iload_n 1, .iload_n 2, .iload_n 3, .invokevirtual 133, .ireturn]
-- 130 CoatedBridgesModel.send(II)I
def pg130 : List AEnt := [(0, .aload 0, 1, 99), (1, .iload 1, 2, 99), (2, .iload 2, 3, 99), (3, .invokevirtual 124, 6, 99), (6, .istore 3, 7, 99), (7, .iload 3, 8, 99), (8, .ifCond .ge 13, 11, 99), (11, .iload 3, 12, 99), (12, .ireturn, 13, 99), (13, .aload 0, 14, 99), (14, .invokevirtual 94, 17, 99), (17, .aload 0, 18, 99), (18, .iload 1, 19, 99), (19, .invokevirtual 113, 22, 99), (22, .ireturn, 23, 99)]
def ac130 : List Instr := [.aload_n 0, .iload_n 1, .iload_n 2, .invokevirtual 136, .istore_n 3, .iload_n 3, .ifCond .ge 5, .iload_n 3, .ireturn, .aload_n 0, .invokevirtual 123, .aload_n 0, .iload_n 1, .invokevirtual 104, .ireturn]
-- 131 CoatedBridgesModel.recall(I)I
def pg131 : List AEnt := [(0, .aload 0, 1, 99), (1, .iload 1, 2, 99), (2, .invokevirtual 125, 5, 99), (5, .istore 2, 6, 99), (6, .iload 2, 7, 99), (7, .ifCond .ge 12, 10, 99), (10, .iload 2, 11, 99), (11, .ireturn, 12, 99), (12, .aload 0, 13, 99), (13, .invokevirtual 94, 16, 99), (16, .aload 0, 17, 99), (17, .iload 1, 18, 99), (18, .invokevirtual 114, 21, 99), (21, .ireturn, 22, 99)]
def ac131 : List Instr := [.aload_n 0, .iload_n 1, .invokevirtual 139, .istore_n 2, .iload_n 2, .ifCond .ge 5, .iload_n 2, .ireturn, .aload_n 0, .invokevirtual 123, .aload_n 0, .iload_n 1, .invokevirtual 142, .ireturn]
-- 132 CoatedBridgesModel.pay(I)I
def pg132 : List AEnt := [(0, .aload 0, 1, 99), (1, .iload 1, 2, 99), (2, .invokevirtual 126, 5, 99), (5, .istore 2, 6, 99), (6, .iload 2, 7, 99), (7, .ifCond .ge 12, 10, 99), (10, .iload 2, 11, 99), (11, .ireturn, 12, 99), (12, .aload 0, 13, 99), (13, .invokevirtual 94, 16, 99), (16, .aload 0, 17, 99), (17, .iload 1, 18, 99), (18, .invokevirtual 115, 21, 99), (21, .ireturn, 22, 99)]
def ac132 : List Instr := [.aload_n 0, .iload_n 1, .invokevirtual 145, .istore_n 2, .iload_n 2, .ifCond .ge 5, .iload_n 2, .ireturn, .aload_n 0, .invokevirtual 123, .aload_n 0, .iload_n 1, .invokevirtual 148, .ireturn]
-- 133 CoatedBridgesModel.days(I)I
def pg133 : List AEnt := [(0, .aload 0, 1, 99), (1, .iload 1, 2, 99), (2, .invokevirtual 127, 5, 99), (5, .istore 2, 6, 99), (6, .iload 2, 7, 99), (7, .ifCond .ge 12, 10, 99), (10, .iload 2, 11, 99), (11, .ireturn, 12, 99), (12, .aload 0, 13, 99), (13, .invokevirtual 94, 16, 99), (16, .aload 0, 17, 99), (17, .iload 1, 18, 99), (18, .invokevirtual 121, 21, 99), (21, .ireturn, 22, 99)]
def ac133 : List Instr := [.aload_n 0, .iload_n 1, .invokevirtual 151, .istore_n 2, .iload_n 2, .ifCond .ge 5, .iload_n 2, .ireturn, .aload_n 0, .invokevirtual 123, .aload_n 0, .iload_n 1, .invokevirtual 154, .ireturn]
-- 134 CoatedBridgesModel.mostOf(I)I
def pg134 : List AEnt := [(0, .iload 0, 1, 99), (1, .tableswitch 54 (0) (6) #[44, 46, 54, 49, 51, 54, 49], 44, 99), (44, .iconst (4), 45, 99), (45, .ireturn, 46, 99), (46, .iconst (100), 48, 99), (48, .ireturn, 49, 99), (49, .iconst (1), 50, 99), (50, .ireturn, 51, 99), (51, .iconst (30), 53, 99), (53, .ireturn, 54, 99), (54, .iconst (99), 56, 99), (56, .ireturn, 57, 99)]
def ac134 : List Instr := [.iload_n 0, .tableswitch 53 0 6 #[43, 45, 53, 48, 50, 53, 48], .iconst 4, .ireturn, .bipush 100, .ireturn, .iconst 1, .ireturn, .bipush 30, .ireturn, .bipush 99, .ireturn]
-- 135 CoatedBridgesModel.set(II)I
def pg135 : List AEnt := [(0, .iload 1, 1, 99), (1, .iconst (0), 2, 99), (2, .iconst (7), 4, 99), (4, .invokestatic 92, 7, 99), (7, .ifCond .eq 31, 10, 99), (10, .iload 2, 11, 99), (11, .iload 1, 12, 99), (12, .iconst (1), 13, 99), (13, .if_icmp .ne 20, 16, 99), (16, .iconst (1), 17, 99), (17, .goto 21, 20, 99), (20, .iconst (0), 21, 99), (21, .iload 1, 22, 99), (22, .invokestatic 134, 25, 99), (25, .invokestatic 92, 28, 99), (28, .ifCond .ne 34, 31, 99), (31, .iconst (-1000001), 33, 99), (33, .ireturn, 34, 99), (34, .aload 0, 35, 99), (35, .invokevirtual 94, 38, 99), (38, .aload 0, 39, 99), (39, .getfield 600, 42, 99), (42, .iconst (3), 43, 99), (43, .iload 1, 44, 99), (44, .iadd, 45, 99), (45, .iaload, 46, 99), (46, .istore 3, 47, 99), (47, .aload 0, 48, 99), (48, .getfield 600, 51, 99), (51, .iconst (3), 52, 99), (52, .iload 1, 53, 99), (53, .iadd, 54, 99), (54, .iload 2, 55, 99), (55, .iastore, 56, 99), (56, .iload 3, 57, 99), (57, .ireturn, 58, 99)]
def ac135 : List Instr := [.iload_n 1, .iconst 0, .bipush 7, .invokestatic 40, .ifCond .eq 24, .iload_n 2, .iload_n 1, .iconst 1, .if_icmp .ne 7, .iconst 1, .goto 4, .iconst 0, .iload_n 1, .invokestatic 157, .invokestatic 40, .ifCond .ne 6, .ldc 110, .ireturn, .aload_n 0, .invokevirtual 123, .aload_n 0, .getfield 7, .iconst 3, .iload_n 1, .iadd, .iaload, .istore_n 3, .aload_n 0, .getfield 7, .iconst 3, .iload_n 1, .iadd, .iload_n 2, .iastore, .iload_n 3, .ireturn]
-- 136 CoatedBridgesModel.undo()I
def pg136 : List AEnt := [(0, .aload 0, 1, 99), (1, .getfield 604, 4, 99), (4, .ifCond .ne 10, 7, 99), (7, .iconst (-1000002), 9, 99), (9, .ireturn, 10, 99), (10, .aload 0, 11, 99), (11, .dup, 12, 99), (12, .getfield 604, 15, 99), (15, .iconst (1), 16, 99), (16, .isub, 17, 99), (17, .putfield 604, 20, 99), (20, .aload 0, 21, 99), (21, .getfield 603, 24, 99), (24, .iconst (184), 27, 99), (27, .aload 0, 28, 99), (28, .getfield 604, 31, 99), (31, .imul, 32, 99), (32, .aload 0, 33, 99), (33, .getfield 600, 36, 99), (36, .iconst (0), 37, 99), (37, .invokestatic 93, 40, 99), (40, .aload 0, 41, 99), (41, .getfield 604, 44, 99), (44, .ireturn, 45, 99)]
def ac136 : List Instr := [.aload_n 0, .getfield 32, .ifCond .ne 6, .ldc 118, .ireturn, .aload_n 0, .dup, .getfield 32, .iconst 1, .isub, .putfield 32, .aload_n 0, .getfield 19, .sipush 184, .aload_n 0, .getfield 32, .imul, .aload_n 0, .getfield 7, .iconst 0, .invokestatic 36, .aload_n 0, .getfield 32, .ireturn]
-- 137 CoatedBridgesModel.bridgeOf(II)I
def pg137 : List AEnt := [(0, .aload 0, 1, 99), (1, .iload 1, 2, 99), (2, .invokevirtual 96, 5, 99), (5, .ifCond .ne 11, 8, 99), (8, .iconst (-1000001), 10, 99), (10, .ireturn, 11, 99), (11, .iload 2, 12, 99), (12, .tableswitch 106 (0) (8) #[64, 64, 64, 64, 71, 77, 77, 77, 84], 64, 99), (64, .aload 0, 65, 99), (65, .iload 1, 66, 99), (66, .iload 2, 67, 99), (67, .invokevirtual 97, 70, 99), (70, .ireturn, 71, 99), (71, .aload 0, 72, 99), (72, .iload 1, 73, 99), (73, .invokevirtual 105, 76, 99), (76, .ireturn, 77, 99), (77, .aload 0, 78, 99), (78, .iload 1, 79, 99), (79, .iload 2, 80, 99), (80, .invokevirtual 97, 83, 99), (83, .ireturn, 84, 99), (84, .aload 0, 85, 99), (85, .iload 1, 86, 99), (86, .invokevirtual 104, 89, 99), (89, .ifCond .eq 104, 92, 99), (92, .aload 0, 93, 99), (93, .iload 1, 94, 99), (94, .invokevirtual 107, 97, 99), (97, .ifCond .eq 104, 100, 99), (100, .iconst (1), 101, 99), (101, .goto 105, 104, 99), (104, .iconst (0), 105, 99), (105, .ireturn, 106, 99), (106, .iconst (-1000001), 108, 99), (108, .ireturn, 109, 99)]
def ac137 : List Instr := [.aload_n 0, .iload_n 1, .invokevirtual 115, .ifCond .ne 6, .ldc 110, .ireturn, .iload_n 2, .tableswitch 94 0 8 #[52, 52, 52, 52, 59, 65, 65, 65, 72], .aload_n 0, .iload_n 1, .iload_n 2, .invokevirtual 44, .ireturn, .aload_n 0, .iload_n 1, .invokevirtual 160, .ireturn, .aload_n 0, .iload_n 1, .iload_n 2, .invokevirtual 44, .ireturn, .aload_n 0, .iload_n 1, .invokevirtual 52, .ifCond .eq 15, .aload_n 0, .iload_n 1, .invokevirtual 63, .ifCond .eq 7, .iconst 1, .goto 4, .iconst 0, .ireturn, .ldc 110, .ireturn]
-- 138 CoatedBridgesModel.openAt(I)I
def pg138 : List AEnt := [(0, .iconst (0), 1, 99), (1, .istore 2, 2, 99), (2, .iconst (0), 3, 99), (3, .istore 3, 4, 99), (4, .iload 3, 5, 4), (5, .aload 0, 6, 99), (6, .getfield 600, 9, 99), (9, .iconst (2), 10, 99), (10, .iaload, 11, 99), (11, .if_icmp .ge 56, 14, 99), (14, .iload 2, 15, 99), (15, .aload 0, 16, 99), (16, .iload 3, 17, 99), (17, .invokevirtual 104, 20, 99), (20, .ifCond .eq 47, 23, 99), (23, .aload 0, 24, 99), (24, .iload 3, 25, 99), (25, .iconst (0), 26, 99), (26, .invokevirtual 97, 29, 99), (29, .iload 1, 30, 99), (30, .if_icmp .eq 43, 33, 99), (33, .aload 0, 34, 99), (34, .iload 3, 35, 99), (35, .iconst (1), 36, 99), (36, .invokevirtual 97, 39, 99), (39, .iload 1, 40, 99), (40, .if_icmp .ne 47, 43, 99), (43, .iconst (1), 44, 99), (44, .goto 48, 47, 99), (47, .iconst (0), 48, 99), (48, .iadd, 49, 99), (49, .istore 2, 50, 99), (50, .iinc 3 (1), 53, 99), (53, .goto 4, 56, 99), (56, .iload 2, 57, 99), (57, .ireturn, 58, 99)]
def ac138 : List Instr := [.iconst 0, .istore_n 2, .iconst 0, .istore_n 3, .iload_n 3, .aload_n 0, .getfield 7, .iconst 2, .iaload, .if_icmp .ge 45, .iload_n 2, .aload_n 0, .iload_n 3, .invokevirtual 52, .ifCond .eq 27, .aload_n 0, .iload_n 3, .iconst 0, .invokevirtual 44, .iload_n 1, .if_icmp .eq 13, .aload_n 0, .iload_n 3, .iconst 1, .invokevirtual 44, .iload_n 1, .if_icmp .ne 7, .iconst 1, .goto 4, .iconst 0, .iadd, .istore_n 2, .iinc 3 1, .goto (-49), .iload_n 2, .ireturn]
-- 139 CoatedBridgesModel.fewestTo(I)I
def pg139_0 : List AEnt := [(0, .iconst (1), 1, 99), (1, .istore 2, 2, 99), (2, .iconst (0), 3, 99), (3, .istore 3, 4, 99), (4, .iload 2, 5, 4), (5, .iload 1, 6, 99), (6, .ishr, 7, 99), (7, .iconst (1), 8, 99), (8, .iand, 9, 99), (9, .ifCond .ne 98, 12, 99), (12, .iload 3, 13, 99), (13, .iconst (8), 15, 99), (15, .if_icmp .ge 98, 18, 99), (18, .iload 2, 19, 99), (19, .istore 4, 21, 99), (21, .iconst (0), 22, 99), (22, .istore 5, 24, 99), (24, .iload 5, 26, 6), (26, .aload 0, 27, 99), (27, .getfield 600, 30, 99), (30, .iconst (2), 31, 99), (31, .iaload, 32, 99), (32, .if_icmp .ge 89, 35, 99), (35, .iconst (1), 36, 99), (36, .aload 0, 37, 99), (37, .iload 5, 39, 99), (39, .iconst (0), 40, 99), (40, .invokevirtual 97, 43, 99), (43, .ishl, 44, 99), (44, .iconst (1), 45, 99), (45, .aload 0, 46, 99), (46, .iload 5, 48, 99), (48, .iconst (1), 49, 99), (49, .invokevirtual 97, 52, 99), (52, .ishl, 53, 99), (53, .ior, 54, 99), (54, .istore 6, 56, 99), (56, .iload 4, 58, 99), (58, .aload 0, 59, 99), (59, .iload 5, 61, 99)]
def pg139_1 : List AEnt := [(61, .invokevirtual 104, 64, 99), (64, .ifCond .eq 79, 67, 99), (67, .iload 2, 68, 99), (68, .iload 6, 70, 99), (70, .iand, 71, 99), (71, .ifCond .eq 79, 74, 99), (74, .iload 6, 76, 99), (76, .goto 80, 79, 99), (79, .iconst (0), 80, 99), (80, .ior, 81, 99), (81, .istore 4, 83, 99), (83, .iinc 5 (1), 86, 99), (86, .goto 24, 89, 99), (89, .iload 4, 91, 99), (91, .istore 2, 92, 99), (92, .iinc 3 (1), 95, 99), (95, .goto 4, 98, 99), (98, .iload 2, 99, 99), (99, .iload 1, 100, 99), (100, .ishr, 101, 99), (101, .iconst (1), 102, 99), (102, .iand, 103, 99), (103, .iconst (1), 104, 99), (104, .if_icmp .ne 111, 107, 99), (107, .iload 3, 108, 99), (108, .goto 113, 111, 99), (111, .iconst (-1000004), 113, 99), (113, .ireturn, 114, 99)]
def pg139 : List AEnt := pg139_0 ++ (pg139_1)
def ac139_0 : List Instr := [.iconst 1, .istore_n 2, .iconst 0, .istore_n 3, .iload_n 2, .iload_n 1, .ishr, .iconst 1, .iand, .ifCond .ne 89, .iload_n 3, .bipush 8, .if_icmp .ge 83, .iload_n 2, .istore 4, .iconst 0, .istore 5, .iload 5, .aload_n 0, .getfield 7, .iconst 2, .iaload, .if_icmp .ge 57, .iconst 1, .aload_n 0, .iload 5, .iconst 0, .invokevirtual 44, .ishl, .iconst 1, .aload_n 0, .iload 5, .iconst 1, .invokevirtual 44, .ishl, .ior, .istore 6, .iload 4, .aload_n 0, .iload 5]
def ac139_1 : List Instr := [.invokevirtual 52, .ifCond .eq 15, .iload_n 2, .iload 6, .iand, .ifCond .eq 8, .iload 6, .goto 4, .iconst 0, .ior, .istore 4, .iinc 5 1, .goto (-62), .iload 4, .istore_n 2, .iinc 3 1, .goto (-91), .iload_n 2, .iload_n 1, .ishr, .iconst 1, .iand, .iconst 1, .if_icmp .ne 7, .iload_n 3, .goto 5, .ldc 55, .ireturn]
def ac139 : List Instr := ac139_0 ++ (ac139_1)
-- 140 CoatedBridgesModel.islandOf(II)I
def pg140_0 : List AEnt := [(0, .aload 0, 1, 99), (1, .iload 1, 2, 99), (2, .invokevirtual 95, 5, 99), (5, .ifCond .ne 11, 8, 99), (8, .iconst (-1000001), 10, 99), (10, .ireturn, 11, 99), (11, .iload 2, 12, 99), (12, .tableswitch 119 (0) (7) #[60, 72, 79, 86, 93, 100, 107, 113], 60, 99), (60, .aload 0, 61, 99), (61, .iconst (0), 62, 99), (62, .iconst (-1000004), 64, 99), (64, .invokevirtual 106, 67, 99), (67, .iload 1, 68, 99), (68, .ishr, 69, 99), (69, .iconst (1), 70, 99), (70, .iand, 71, 99), (71, .ireturn, 72, 99), (72, .aload 0, 73, 99), (73, .iload 1, 74, 99), (74, .iconst (1), 75, 99), (75, .invokevirtual 100, 78, 99), (78, .ireturn, 79, 99), (79, .aload 0, 80, 99), (80, .iload 1, 81, 99), (81, .iconst (0), 82, 99), (82, .invokevirtual 100, 85, 99), (85, .ireturn, 86, 99), (86, .aload 0, 87, 99), (87, .iload 1, 88, 99), (88, .iconst (2), 89, 99), (89, .invokevirtual 100, 92, 99), (92, .ireturn, 93, 99), (93, .aload 0, 94, 99), (94, .iload 1, 95, 99), (95, .iconst (3), 96, 99), (96, .invokevirtual 100, 99, 99), (99, .ireturn, 100, 99), (100, .aload 0, 101, 99), (101, .iload 1, 102, 99), (102, .iconst (4), 103, 99)]
def pg140_1 : List AEnt := [(103, .invokevirtual 100, 106, 99), (106, .ireturn, 107, 99), (107, .aload 0, 108, 99), (108, .iload 1, 109, 99), (109, .invokevirtual 138, 112, 99), (112, .ireturn, 113, 99), (113, .aload 0, 114, 99), (114, .iload 1, 115, 99), (115, .invokevirtual 139, 118, 99), (118, .ireturn, 119, 99), (119, .iconst (-1000001), 121, 99), (121, .ireturn, 122, 99)]
def pg140 : List AEnt := pg140_0 ++ (pg140_1)
def ac140_0 : List Instr := [.aload_n 0, .iload_n 1, .invokevirtual 112, .ifCond .ne 6, .ldc 110, .ireturn, .iload_n 2, .tableswitch 107 0 7 #[48, 60, 67, 74, 81, 88, 95, 101], .aload_n 0, .iconst 0, .ldc 55, .invokevirtual 56, .iload_n 1, .ishr, .iconst 1, .iand, .ireturn, .aload_n 0, .iload_n 1, .iconst 1, .invokevirtual 80, .ireturn, .aload_n 0, .iload_n 1, .iconst 0, .invokevirtual 80, .ireturn, .aload_n 0, .iload_n 1, .iconst 2, .invokevirtual 80, .ireturn, .aload_n 0, .iload_n 1, .iconst 3, .invokevirtual 80, .ireturn, .aload_n 0, .iload_n 1, .iconst 4]
def ac140_1 : List Instr := [.invokevirtual 80, .ireturn, .aload_n 0, .iload_n 1, .invokevirtual 163, .ireturn, .aload_n 0, .iload_n 1, .invokevirtual 166, .ireturn, .ldc 110, .ireturn]
def ac140 : List Instr := ac140_0 ++ (ac140_1)
-- 141 CoatedBridgesModel.reach(I)I
def pg141 : List AEnt := [(0, .aload 0, 1, 99), (1, .iload 1, 2, 99), (2, .invokevirtual 95, 5, 99), (5, .ifCond .eq 18, 8, 99), (8, .aload 0, 9, 99), (9, .iload 1, 10, 99), (10, .iconst (-1000004), 12, 99), (12, .invokevirtual 106, 15, 99), (15, .goto 20, 18, 99), (18, .iconst (-1000001), 20, 99), (20, .ireturn, 21, 99)]
def ac141 : List Instr := [.aload_n 0, .iload_n 1, .invokevirtual 112, .ifCond .eq 13, .aload_n 0, .iload_n 1, .ldc 55, .invokevirtual 56, .goto 5, .ldc 110, .ireturn]
-- 142 CoatedBridgesModel.book(II)I
def pg142 : List AEnt := [(0, .iload 1, 1, 99), (1, .ifCond .lt 13, 4, 99), (4, .iload 2, 5, 99), (5, .iconst (0), 6, 99), (6, .iconst (1), 7, 99), (7, .invokestatic 92, 10, 99), (10, .ifCond .ne 16, 13, 99), (13, .iconst (-1000001), 15, 99), (15, .ireturn, 16, 99), (16, .iload 1, 17, 99), (17, .aload 0, 18, 99), (18, .getfield 600, 21, 99), (21, .iconst (15), 23, 99), (23, .iaload, 24, 99), (24, .if_icmp .ge 43, 27, 99), (27, .aload 0, 28, 99), (28, .getfield 600, 31, 99), (31, .iconst (16), 33, 99), (33, .iconst (2), 34, 99), (34, .iload 1, 35, 99), (35, .imul, 36, 99), (36, .iadd, 37, 99), (37, .iload 2, 38, 99), (38, .iadd, 39, 99), (39, .iaload, 40, 99), (40, .goto 45, 43, 99), (43, .iconst (-1000004), 45, 99), (45, .ireturn, 46, 99)]
def ac142 : List Instr := [.iload_n 1, .ifCond .lt 12, .iload_n 2, .iconst 0, .iconst 1, .invokestatic 40, .ifCond .ne 6, .ldc 110, .ireturn, .iload_n 1, .aload_n 0, .getfield 7, .bipush 15, .iaload, .if_icmp .ge 19, .aload_n 0, .getfield 7, .bipush 16, .iconst 2, .iload_n 1, .imul, .iadd, .iload_n 2, .iadd, .iaload, .goto 5, .ldc 55, .ireturn]
-- 143 CoatedBridgesModel.lowest(I)I
def pg143 : List AEnt := [(0, .iconst (0), 1, 99), (1, .istore 2, 2, 99), (2, .iload 1, 3, 3), (3, .iload 2, 4, 99), (4, .ishr, 5, 99), (5, .iconst (1), 6, 99), (6, .iand, 7, 99), (7, .ifCond .ne 16, 10, 99), (10, .iinc 2 (1), 13, 99), (13, .goto 2, 16, 99), (16, .iload 2, 17, 99), (17, .ireturn, 18, 99)]
def ac143 : List Instr := [.iconst 0, .istore_n 2, .iload_n 1, .iload_n 2, .ishr, .iconst 1, .iand, .ifCond .ne 9, .iinc 2 1, .goto (-11), .iload_n 2, .ireturn]
-- 144 CoatedBridgesModel.why(II)I
def pg144 : List AEnt := [(0, .aload 0, 1, 99), (1, .iload 1, 2, 99), (2, .invokevirtual 96, 5, 99), (5, .ifCond .eq 17, 8, 99), (8, .iload 2, 9, 99), (9, .iconst (0), 10, 99), (10, .iconst (1), 11, 99), (11, .invokestatic 92, 14, 99), (14, .ifCond .ne 20, 17, 99), (17, .iconst (-1000001), 19, 99), (19, .ireturn, 20, 99), (20, .aload 0, 21, 99), (21, .iload 1, 22, 99), (22, .invokevirtual 109, 25, 99), (25, .istore 3, 26, 99), (26, .iload 2, 27, 99), (27, .ifCond .ne 34, 30, 99), (30, .iload 3, 31, 99), (31, .goto 53, 34, 99), (34, .iload 3, 35, 99), (35, .iconst (4), 36, 99), (36, .if_icmp .ne 51, 39, 99), (39, .aload 0, 40, 99), (40, .aload 0, 41, 99), (41, .iload 1, 42, 99), (42, .invokevirtual 107, 45, 99), (45, .invokevirtual 143, 48, 99), (48, .goto 53, 51, 99), (51, .iconst (-1000004), 53, 99), (53, .ireturn, 54, 99)]
def ac144 : List Instr := [.aload_n 0, .iload_n 1, .invokevirtual 115, .ifCond .eq 12, .iload_n 2, .iconst 0, .iconst 1, .invokestatic 40, .ifCond .ne 6, .ldc 110, .ireturn, .aload_n 0, .iload_n 1, .invokevirtual 67, .istore_n 3, .iload_n 2, .ifCond .ne 7, .iload_n 3, .goto 22, .iload_n 3, .iconst 4, .if_icmp .ne 15, .aload_n 0, .aload_n 0, .iload_n 1, .invokevirtual 63, .invokevirtual 169, .goto 5, .ldc 55, .ireturn]
-- 145 CoatedBridgesModel.best()I
def pg145 : List AEnt := [(0, .aload 0, 1, 99), (1, .invokevirtual 110, 4, 99), (4, .ireturn, 5, 99)]
def ac145 : List Instr := [.aload_n 0, .invokevirtual 101, .ireturn]
-- 146 CoatedBridgesModel.rustsIn(I)I
def pg146 : List AEnt := [(0, .aload 0, 1, 99), (1, .iload 1, 2, 99), (2, .invokevirtual 96, 5, 99), (5, .ifCond .ne 11, 8, 99), (8, .iconst (-1000001), 10, 99), (10, .ireturn, 11, 99), (11, .aload 0, 12, 99), (12, .iload 1, 13, 99), (13, .invokevirtual 103, 16, 99), (16, .ifCond .eq 24, 19, 99), (19, .iconst (-1000002), 21, 99), (21, .goto 46, 24, 99), (24, .aload 0, 25, 99), (25, .iload 1, 26, 99), (26, .iconst (3), 27, 99), (27, .invokevirtual 97, 30, 99), (30, .aload 0, 31, 99), (31, .iload 1, 32, 99), (32, .iconst (2), 33, 99), (33, .invokevirtual 97, 36, 99), (36, .iadd, 37, 99), (37, .iconst (1), 38, 99), (38, .isub, 39, 99), (39, .aload 0, 40, 99), (40, .iload 1, 41, 99), (41, .iconst (2), 42, 99), (42, .invokevirtual 97, 45, 99), (45, .idiv, 46, 99), (46, .ireturn, 47, 99)]
def ac146 : List Instr := [.aload_n 0, .iload_n 1, .invokevirtual 115, .ifCond .ne 6, .ldc 110, .ireturn, .aload_n 0, .iload_n 1, .invokevirtual 48, .ifCond .eq 8, .ldc 118, .goto 25, .aload_n 0, .iload_n 1, .iconst 3, .invokevirtual 44, .aload_n 0, .iload_n 1, .iconst 2, .invokevirtual 44, .iadd, .iconst 1, .isub, .aload_n 0, .iload_n 1, .iconst 2, .invokevirtual 44, .idiv, .ireturn]
-- 147 CoatedBridgesModel.paintedIn(I)I
def pg147_0 : List AEnt := [(0, .aload 0, 1, 99), (1, .iload 1, 2, 99), (2, .invokevirtual 96, 5, 99), (5, .ifCond .ne 11, 8, 99), (8, .iconst (-1000001), 10, 99), (10, .ireturn, 11, 99), (11, .aload 0, 12, 99), (12, .iload 1, 13, 99), (13, .invokevirtual 103, 16, 99), (16, .ifCond .ne 22, 19, 99), (19, .iconst (-1000002), 21, 99), (21, .ireturn, 22, 99), (22, .aload 0, 23, 99), (23, .getfield 600, 26, 99), (26, .iconst (0), 27, 99), (27, .aload 0, 28, 99), (28, .getfield 601, 31, 99), (31, .iconst (0), 32, 99), (32, .invokestatic 93, 35, 99), (35, .iconst (0), 36, 99), (36, .istore 2, 37, 99), (37, .iload 2, 38, 3), (38, .iconst (200), 41, 99), (41, .if_icmp .gt 63, 44, 99), (44, .aload 0, 45, 99), (45, .iload 1, 46, 99), (46, .invokevirtual 103, 49, 99), (49, .ifCond .eq 63, 52, 99), (52, .aload 0, 53, 99), (53, .invokevirtual 120, 56, 99), (56, .istore 3, 57, 99), (57, .iinc 2 (1), 60, 99), (60, .goto 37, 63, 99), (63, .aload 0, 64, 99), (64, .getfield 601, 67, 99), (67, .iconst (0), 68, 99), (68, .aload 0, 69, 99), (69, .getfield 600, 72, 99), (72, .iconst (0), 73, 99), (73, .invokestatic 93, 76, 99)]
def pg147_1 : List AEnt := [(76, .iload 2, 77, 99), (77, .iconst (200), 80, 99), (80, .if_icmp .le 88, 83, 99), (83, .iconst (-1000004), 85, 99), (85, .goto 89, 88, 99), (88, .iload 2, 89, 99), (89, .ireturn, 90, 99)]
def pg147 : List AEnt := pg147_0 ++ (pg147_1)
def ac147_0 : List Instr := [.aload_n 0, .iload_n 1, .invokevirtual 115, .ifCond .ne 6, .ldc 110, .ireturn, .aload_n 0, .iload_n 1, .invokevirtual 48, .ifCond .ne 6, .ldc 118, .ireturn, .aload_n 0, .getfield 7, .iconst 0, .aload_n 0, .getfield 13, .iconst 0, .invokestatic 36, .iconst 0, .istore_n 2, .iload_n 2, .sipush 200, .if_icmp .gt 22, .aload_n 0, .iload_n 1, .invokevirtual 48, .ifCond .eq 14, .aload_n 0, .invokevirtual 107, .istore_n 3, .iinc 2 1, .goto (-23), .aload_n 0, .getfield 13, .iconst 0, .aload_n 0, .getfield 7, .iconst 0, .invokestatic 36]
def ac147_1 : List Instr := [.iload_n 2, .sipush 200, .if_icmp .le 8, .ldc 55, .goto 4, .iload_n 2, .ireturn]
def ac147 : List Instr := ac147_0 ++ (ac147_1)
-- 148 CoatedBridgesModel.aloneIn()I
def pg148_0 : List AEnt := [(0, .aload 0, 1, 99), (1, .getfield 600, 4, 99), (4, .iconst (0), 5, 99), (5, .aload 0, 6, 99), (6, .getfield 601, 9, 99), (9, .iconst (0), 10, 99), (10, .invokestatic 93, 13, 99), (13, .aload 0, 14, 99), (14, .iconst (0), 15, 99), (15, .iconst (-1000004), 17, 99), (17, .invokevirtual 106, 20, 99), (20, .istore 1, 21, 99), (21, .iconst (0), 22, 99), (22, .istore 2, 23, 99), (23, .iload 2, 24, 3), (24, .iconst (200), 27, 99), (27, .if_icmp .gt 55, 30, 99), (30, .iload 1, 31, 99), (31, .aload 0, 32, 99), (32, .iconst (0), 33, 99), (33, .iconst (-1000004), 35, 99), (35, .invokevirtual 106, 38, 99), (38, .iconst (-1), 39, 99), (39, .ixor, 40, 99), (40, .iand, 41, 99), (41, .ifCond .ne 55, 44, 99), (44, .aload 0, 45, 99), (45, .invokevirtual 120, 48, 99), (48, .istore 3, 49, 99), (49, .iinc 2 (1), 52, 99), (52, .goto 23, 55, 99), (55, .aload 0, 56, 99), (56, .getfield 601, 59, 99), (59, .iconst (0), 60, 99), (60, .aload 0, 61, 99), (61, .getfield 600, 64, 99), (64, .iconst (0), 65, 99), (65, .invokestatic 93, 68, 99), (68, .iload 2, 69, 99), (69, .iconst (200), 72, 99)]
def pg148_1 : List AEnt := [(72, .if_icmp .le 80, 75, 99), (75, .iconst (-1000004), 77, 99), (77, .goto 81, 80, 99), (80, .iload 2, 81, 99), (81, .ireturn, 82, 99)]
def pg148 : List AEnt := pg148_0 ++ (pg148_1)
def ac148_0 : List Instr := [.aload_n 0, .getfield 7, .iconst 0, .aload_n 0, .getfield 13, .iconst 0, .invokestatic 36, .aload_n 0, .iconst 0, .ldc 55, .invokevirtual 56, .istore_n 1, .iconst 0, .istore_n 2, .iload_n 2, .sipush 200, .if_icmp .gt 28, .iload_n 1, .aload_n 0, .iconst 0, .ldc 55, .invokevirtual 56, .iconst (-1), .ixor, .iand, .ifCond .ne 14, .aload_n 0, .invokevirtual 107, .istore_n 3, .iinc 2 1, .goto (-29), .aload_n 0, .getfield 13, .iconst 0, .aload_n 0, .getfield 7, .iconst 0, .invokestatic 36, .iload_n 2, .sipush 200]
def ac148_1 : List Instr := [.if_icmp .le 8, .ldc 55, .goto 4, .iload_n 2, .ireturn]
def ac148 : List Instr := ac148_0 ++ (ac148_1)
-- 149 CoatedBridgesModel.ifDays(I)I
def pg149 : List AEnt := [(0, .iload 1, 1, 99), (1, .iconst (1), 2, 99), (2, .iconst (99), 4, 99), (4, .invokestatic 92, 7, 99), (7, .ifCond .ne 13, 10, 99), (10, .iconst (-1000001), 12, 99), (12, .ireturn, 13, 99), (13, .aload 0, 14, 99), (14, .getfield 600, 17, 99), (17, .iconst (0), 18, 99), (18, .aload 0, 19, 99), (19, .getfield 601, 22, 99), (22, .iconst (0), 23, 99), (23, .invokestatic 93, 26, 99), (26, .aload 0, 27, 99), (27, .iload 1, 28, 99), (28, .invokevirtual 121, 31, 99), (31, .istore 2, 32, 99), (32, .aload 0, 33, 99), (33, .getfield 601, 36, 99), (36, .iconst (0), 37, 99), (37, .aload 0, 38, 99), (38, .getfield 600, 41, 99), (41, .iconst (0), 42, 99), (42, .invokestatic 93, 45, 99), (45, .iload 2, 46, 99), (46, .ireturn, 47, 99)]
def ac149 : List Instr := [.iload_n 1, .iconst 1, .bipush 99, .invokestatic 40, .ifCond .ne 6, .ldc 110, .ireturn, .aload_n 0, .getfield 7, .iconst 0, .aload_n 0, .getfield 13, .iconst 0, .invokestatic 36, .aload_n 0, .iload_n 1, .invokevirtual 154, .istore_n 2, .aload_n 0, .getfield 13, .iconst 0, .aload_n 0, .getfield 7, .iconst 0, .invokestatic 36, .iload_n 2, .ireturn]
-- 150 CoatedBridgesModel.mean()I
def pg150 : List AEnt := [(0, .iconst (0), 1, 99), (1, .istore 1, 2, 99), (2, .iconst (0), 3, 99), (3, .istore 2, 4, 99), (4, .iload 2, 5, 3), (5, .aload 0, 6, 99), (6, .getfield 600, 9, 99), (9, .iconst (2), 10, 99), (10, .iaload, 11, 99), (11, .if_icmp .ge 29, 14, 99), (14, .iload 1, 15, 99), (15, .aload 0, 16, 99), (16, .iload 2, 17, 99), (17, .iconst (3), 18, 99), (18, .invokevirtual 97, 21, 99), (21, .iadd, 22, 99), (22, .istore 1, 23, 99), (23, .iinc 2 (1), 26, 99), (26, .goto 4, 29, 99), (29, .aload 0, 30, 99), (30, .getfield 600, 33, 99), (33, .iconst (2), 34, 99), (34, .iaload, 35, 99), (35, .ifCond .ne 43, 38, 99), (38, .iconst (-1000004), 40, 99), (40, .goto 56, 43, 99), (43, .iload 1, 44, 99), (44, .i2f, 45, 99), (45, .aload 0, 46, 99), (46, .getfield 600, 49, 99), (49, .iconst (2), 50, 99), (50, .iaload, 51, 99), (51, .i2f, 52, 99), (52, .fdiv, 53, 99), (53, .invokestatic 168, 56, 99), (56, .ireturn, 57, 99)]
def ac150 : List Instr := [.iconst 0, .istore_n 1, .iconst 0, .istore_n 2, .iload_n 2, .aload_n 0, .getfield 7, .iconst 2, .iaload, .if_icmp .ge 18, .iload_n 1, .aload_n 0, .iload_n 2, .iconst 3, .invokevirtual 44, .iadd, .istore_n 1, .iinc 2 1, .goto (-22), .aload_n 0, .getfield 7, .iconst 2, .iaload, .ifCond .ne 8, .ldc 55, .goto 16, .iload_n 1, .i2f, .aload_n 0, .getfield 7, .iconst 2, .iaload, .i2f, .fdiv, .invokestatic 172, .ireturn]
-- 151 CoatedBridgesModel.setOf(I)I
def pg151 : List AEnt := [(0, .iconst (0), 1, 99), (1, .istore 2, 2, 99), (2, .iconst (0), 3, 99), (3, .istore 3, 4, 99), (4, .iload 3, 5, 4), (5, .aload 0, 6, 99), (6, .getfield 600, 9, 99), (9, .iconst (2), 10, 99), (10, .iaload, 11, 99), (11, .if_icmp .ge 39, 14, 99), (14, .iload 2, 15, 99), (15, .aload 0, 16, 99), (16, .iload 3, 17, 99), (17, .invokevirtual 105, 20, 99), (20, .iload 1, 21, 99), (21, .if_icmp .ne 30, 24, 99), (24, .iconst (1), 25, 99), (25, .iload 3, 26, 99), (26, .ishl, 27, 99), (27, .goto 31, 30, 99), (30, .iconst (0), 31, 99), (31, .ior, 32, 99), (32, .istore 2, 33, 99), (33, .iinc 3 (1), 36, 99), (36, .goto 4, 39, 99), (39, .iload 2, 40, 99), (40, .ireturn, 41, 99)]
def ac151 : List Instr := [.iconst 0, .istore_n 2, .iconst 0, .istore_n 3, .iload_n 3, .aload_n 0, .getfield 7, .iconst 2, .iaload, .if_icmp .ge 28, .iload_n 2, .aload_n 0, .iload_n 3, .invokevirtual 160, .iload_n 1, .if_icmp .ne 9, .iconst 1, .iload_n 3, .ishl, .goto 4, .iconst 0, .ior, .istore_n 2, .iinc 3 1, .goto (-32), .iload_n 2, .ireturn]
-- 152 CoatedBridgesModel.neededOnes()I
def pg152 : List AEnt := [(0, .iconst (0), 1, 99), (1, .istore 1, 2, 99), (2, .iconst (0), 3, 99), (3, .istore 2, 4, 99), (4, .iload 2, 5, 3), (5, .aload 0, 6, 99), (6, .getfield 600, 9, 99), (9, .iconst (2), 10, 99), (10, .iaload, 11, 99), (11, .if_icmp .ge 46, 14, 99), (14, .iload 1, 15, 99), (15, .aload 0, 16, 99), (16, .iload 2, 17, 99), (17, .invokevirtual 104, 20, 99), (20, .ifCond .eq 37, 23, 99), (23, .aload 0, 24, 99), (24, .iload 2, 25, 99), (25, .invokevirtual 107, 28, 99), (28, .ifCond .eq 37, 31, 99), (31, .iconst (1), 32, 99), (32, .iload 2, 33, 99), (33, .ishl, 34, 99), (34, .goto 38, 37, 99), (37, .iconst (0), 38, 99), (38, .ior, 39, 99), (39, .istore 1, 40, 99), (40, .iinc 2 (1), 43, 99), (43, .goto 4, 46, 99), (46, .iload 1, 47, 99), (47, .ireturn, 48, 99)]
def ac152 : List Instr := [.iconst 0, .istore_n 1, .iconst 0, .istore_n 2, .iload_n 2, .aload_n 0, .getfield 7, .iconst 2, .iaload, .if_icmp .ge 35, .iload_n 1, .aload_n 0, .iload_n 2, .invokevirtual 52, .ifCond .eq 17, .aload_n 0, .iload_n 2, .invokevirtual 63, .ifCond .eq 9, .iconst 1, .iload_n 2, .ishl, .goto 4, .iconst 0, .ior, .istore_n 1, .iinc 2 1, .goto (-39), .iload_n 1, .ireturn]
-- 153 CoatedBridgesModel.groups()I
def pg153 : List AEnt := [(0, .iconst (0), 1, 99), (1, .istore 1, 2, 99), (2, .iconst (0), 3, 99), (3, .istore 2, 4, 99), (4, .iload 2, 5, 3), (5, .aload 0, 6, 99), (6, .getfield 600, 9, 99), (9, .iconst (1), 10, 99), (10, .iaload, 11, 99), (11, .if_icmp .ge 43, 14, 99), (14, .iload 1, 15, 99), (15, .aload 0, 16, 99), (16, .aload 0, 17, 99), (17, .iload 2, 18, 99), (18, .iconst (-1000004), 20, 99), (20, .invokevirtual 106, 23, 99), (23, .invokevirtual 143, 26, 99), (26, .iload 2, 27, 99), (27, .if_icmp .ne 34, 30, 99), (30, .iconst (1), 31, 99), (31, .goto 35, 34, 99), (34, .iconst (0), 35, 99), (35, .iadd, 36, 99), (36, .istore 1, 37, 99), (37, .iinc 2 (1), 40, 99), (40, .goto 4, 43, 99), (43, .iload 1, 44, 99), (44, .ireturn, 45, 99)]
def ac153 : List Instr := [.iconst 0, .istore_n 1, .iconst 0, .istore_n 2, .iload_n 2, .aload_n 0, .getfield 7, .iconst 1, .iaload, .if_icmp .ge 32, .iload_n 1, .aload_n 0, .aload_n 0, .iload_n 2, .ldc 55, .invokevirtual 56, .invokevirtual 169, .iload_n 2, .if_icmp .ne 7, .iconst 1, .goto 4, .iconst 0, .iadd, .istore_n 1, .iinc 2 1, .goto (-36), .iload_n 1, .ireturn]
-- 154 CoatedBridgesModel.ofIslands(IZ)I
def pg154 : List AEnt := [(0, .iconst (0), 1, 99), (1, .istore 3, 2, 99), (2, .iconst (0), 3, 99), (3, .istore 4, 5, 99), (5, .iload 4, 7, 5), (7, .aload 0, 8, 99), (8, .getfield 600, 11, 99), (11, .iconst (1), 12, 99), (12, .iaload, 13, 99), (13, .if_icmp .ge 55, 16, 99), (16, .aload 0, 17, 99), (17, .iload 4, 19, 99), (19, .iload 1, 20, 99), (20, .invokevirtual 100, 23, 99), (23, .istore 5, 25, 99), (25, .iload 2, 26, 99), (26, .ifCond .ne 36, 29, 99), (29, .iload 3, 30, 99), (30, .iload 5, 32, 99), (32, .iadd, 33, 99), (33, .goto 48, 36, 99), (36, .iload 5, 38, 99), (38, .iload 3, 39, 99), (39, .if_icmp .le 47, 42, 99), (42, .iload 5, 44, 99), (44, .goto 48, 47, 99), (47, .iload 3, 48, 99), (48, .istore 3, 49, 99), (49, .iinc 4 (1), 52, 99), (52, .goto 5, 55, 99), (55, .iload 3, 56, 99), (56, .ireturn, 57, 99)]
def ac154 : List Instr := [.iconst 0, .istore_n 3, .iconst 0, .istore 4, .iload 4, .aload_n 0, .getfield 7, .iconst 1, .iaload, .if_icmp .ge 42, .aload_n 0, .iload 4, .iload_n 1, .invokevirtual 80, .istore 5, .iload_n 2, .ifCond .ne 10, .iload_n 3, .iload 5, .iadd, .goto 15, .iload 5, .iload_n 3, .if_icmp .le 8, .iload 5, .goto 4, .iload_n 3, .istore_n 3, .iinc 4 1, .goto (-47), .iload_n 3, .ireturn]
-- 155 CoatedBridgesModel.count(I)I
def pg155_0 : List AEnt := [(0, .iload 1, 1, 99), (1, .tableswitch 195 (0) (19) #[96, 96, 96, 103, 111, 111, 111, 119, 124, 124, 129, 158, 165, 172, 172, 172, 172, 172, 185, 190], 96, 99), (96, .aload 0, 97, 99), (97, .getfield 600, 100, 99), (100, .iload 1, 101, 99), (101, .iaload, 102, 99), (102, .ireturn, 103, 99), (103, .aload 0, 104, 99), (104, .iconst (0), 105, 99), (105, .iconst (-1000004), 107, 99), (107, .invokevirtual 106, 110, 99), (110, .ireturn, 111, 99), (111, .aload 0, 112, 99), (112, .iload 1, 113, 99), (113, .iconst (4), 114, 99), (114, .isub, 115, 99), (115, .invokevirtual 151, 118, 99), (118, .ireturn, 119, 99), (119, .aload 0, 120, 99), (120, .invokevirtual 152, 123, 99), (123, .ireturn, 124, 99), (124, .aload 0, 125, 99), (125, .invokevirtual 153, 128, 99), (128, .ireturn, 129, 99), (129, .aload 0, 130, 99), (130, .getfield 600, 133, 99), (133, .iconst (3), 134, 99), (134, .iaload, 135, 99), (135, .aload 0, 136, 99), (136, .invokevirtual 108, 139, 99), (139, .if_icmp .le 156, 142, 99), (142, .aload 0, 143, 99), (143, .getfield 600, 146, 99), (146, .iconst (3), 147, 99), (147, .iaload, 148, 99), (148, .aload 0, 149, 99), (149, .invokevirtual 108, 152, 99), (152, .isub, 153, 99), (153, .goto 157, 156, 99), (156, .iconst (0), 157, 99)]
def pg155_1 : List AEnt := [(157, .ireturn, 158, 99), (158, .aload 0, 159, 99), (159, .iconst (2), 160, 99), (160, .iconst (0), 161, 99), (161, .invokevirtual 154, 164, 99), (164, .ireturn, 165, 99), (165, .aload 0, 166, 99), (166, .iconst (3), 167, 99), (167, .iconst (1), 168, 99), (168, .invokevirtual 154, 171, 99), (171, .ireturn, 172, 99), (172, .aload 0, 173, 99), (173, .getfield 600, 176, 99), (176, .iconst (11), 178, 99), (178, .iload 1, 179, 99), (179, .iadd, 180, 99), (180, .iconst (13), 182, 99), (182, .isub, 183, 99), (183, .iaload, 184, 99), (184, .ireturn, 185, 99), (185, .aload 0, 186, 99), (186, .getfield 604, 189, 99), (189, .ireturn, 190, 99), (190, .aload 0, 191, 99), (191, .getfield 606, 194, 99), (194, .ireturn, 195, 99), (195, .iload 1, 196, 99), (196, .iconst (20), 198, 99), (198, .iconst (27), 200, 99), (200, .invokestatic 92, 203, 99), (203, .ifCond .eq 220, 206, 99), (206, .aload 0, 207, 99), (207, .getfield 600, 210, 99), (210, .iconst (3), 211, 99), (211, .iload 1, 212, 99), (212, .iadd, 213, 99), (213, .iconst (20), 215, 99), (215, .isub, 216, 99), (216, .iaload, 217, 99), (217, .goto 222, 220, 99)]
def pg155_2 : List AEnt := [(220, .iconst (-1000001), 222, 99), (222, .ireturn, 223, 99)]
def pg155 : List AEnt := pg155_0 ++ (pg155_1 ++ (pg155_2))
def ac155_0 : List Instr := [.iload_n 1, .tableswitch 194 0 19 #[95, 95, 95, 102, 110, 110, 110, 118, 123, 123, 128, 157, 164, 171, 171, 171, 171, 171, 184, 189], .aload_n 0, .getfield 7, .iload_n 1, .iaload, .ireturn, .aload_n 0, .iconst 0, .ldc 55, .invokevirtual 56, .ireturn, .aload_n 0, .iload_n 1, .iconst 4, .isub, .invokevirtual 178, .ireturn, .aload_n 0, .invokevirtual 181, .ireturn, .aload_n 0, .invokevirtual 184, .ireturn, .aload_n 0, .getfield 7, .iconst 3, .iaload, .aload_n 0, .invokevirtual 59, .if_icmp .le 17, .aload_n 0, .getfield 7, .iconst 3, .iaload, .aload_n 0, .invokevirtual 59, .isub, .goto 4, .iconst 0]
def ac155_1 : List Instr := [.ireturn, .aload_n 0, .iconst 2, .iconst 0, .invokevirtual 187, .ireturn, .aload_n 0, .iconst 3, .iconst 1, .invokevirtual 187, .ireturn, .aload_n 0, .getfield 7, .bipush 11, .iload_n 1, .iadd, .bipush 13, .isub, .iaload, .ireturn, .aload_n 0, .getfield 32, .ireturn, .aload_n 0, .getfield 190, .ireturn, .iload_n 1, .bipush 20, .bipush 27, .invokestatic 40, .ifCond .eq 17, .aload_n 0, .getfield 7, .iconst 3, .iload_n 1, .iadd, .bipush 20, .isub, .iaload, .goto 5]
def ac155_2 : List Instr := [.ldc 110, .ireturn]
def ac155 : List Instr := ac155_0 ++ (ac155_1 ++ (ac155_2))
-- 156 CoatedBridgesModel.type(I)I
def pg156 : List AEnt := [(0, .iload 1, 1, 99), (1, .iconst (32), 3, 99), (3, .iconst (126), 5, 99), (5, .invokestatic 92, 8, 99), (8, .ifCond .ne 14, 11, 99), (11, .iconst (-1000001), 13, 99), (13, .ireturn, 14, 99), (14, .aload 0, 15, 99), (15, .getfield 606, 18, 99), (18, .iconst (60), 20, 99), (20, .if_icmp .ne 26, 23, 99), (23, .iconst (-1000003), 25, 99), (25, .ireturn, 26, 99), (26, .aload 0, 27, 99), (27, .getfield 605, 30, 99), (30, .aload 0, 31, 99), (31, .getfield 606, 34, 99), (34, .iload 1, 35, 99), (35, .iastore, 36, 99), (36, .aload 0, 37, 99), (37, .dup, 38, 99), (38, .getfield 606, 41, 99), (41, .iconst (1), 42, 99), (42, .iadd, 43, 99), (43, .putfield 606, 46, 99), (46, .aload 0, 47, 99), (47, .getfield 606, 50, 99), (50, .ireturn, 51, 99)]
def ac156 : List Instr := [.iload_n 1, .bipush 32, .bipush 126, .invokestatic 40, .ifCond .ne 6, .ldc 110, .ireturn, .aload_n 0, .getfield 190, .bipush 60, .if_icmp .ne 6, .ldc 111, .ireturn, .aload_n 0, .getfield 22, .aload_n 0, .getfield 190, .iload_n 1, .iastore, .aload_n 0, .dup, .getfield 190, .iconst 1, .iadd, .putfield 190, .aload_n 0, .getfield 190, .ireturn]
-- 157 CoatedBridgesModel.clearText()I
def pg157 : List AEnt := [(0, .aload 0, 1, 99), (1, .getfield 606, 4, 99), (4, .istore 1, 5, 99), (5, .aload 0, 6, 99), (6, .iconst (0), 7, 99), (7, .putfield 606, 10, 99), (10, .iload 1, 11, 99), (11, .ireturn, 12, 99)]
def ac157 : List Instr := [.aload_n 0, .getfield 190, .istore_n 1, .aload_n 0, .iconst 0, .putfield 190, .iload_n 1, .ireturn]
-- 158 CoatedBridgesModel.here()I
def pg158 : List AEnt := [(0, .aload 0, 1, 99), (1, .getfield 608, 4, 99), (4, .aload 0, 5, 99), (5, .getfield 606, 8, 99), (8, .if_icmp .ge 23, 11, 99), (11, .aload 0, 12, 99), (12, .getfield 605, 15, 99), (15, .aload 0, 16, 99), (16, .getfield 608, 19, 99), (19, .iaload, 20, 99), (20, .goto 24, 23, 99), (23, .iconst (0), 24, 99), (24, .ireturn, 25, 99)]
def ac158 : List Instr := [.aload_n 0, .getfield 193, .aload_n 0, .getfield 190, .if_icmp .ge 15, .aload_n 0, .getfield 22, .aload_n 0, .getfield 193, .iaload, .goto 4, .iconst 0, .ireturn]
-- 159 CoatedBridgesModel.takes(Z)V
def pg159 : List AEnt := [(0, .aload 0, 1, 99), (1, .aload 0, 2, 99), (2, .getfield 610, 5, 99), (5, .ifCond .eq 16, 8, 99), (8, .iload 1, 9, 99), (9, .ifCond .eq 16, 12, 99), (12, .iconst (1), 13, 99), (13, .goto 17, 16, 99), (16, .iconst (0), 17, 99), (17, .putfield 610, 20, 99), (20, .aload 0, 21, 99), (21, .dup, 22, 99), (22, .getfield 608, 25, 99), (25, .aload 0, 26, 99), (26, .getfield 610, 29, 99), (29, .ifCond .eq 36, 32, 99), (32, .iconst (1), 33, 99), (33, .goto 37, 36, 99), (36, .iconst (0), 37, 99), (37, .iadd, 38, 99), (38, .putfield 608, 41, 99), (41, .return_, 42, 99)]
def ac159 : List Instr := [.aload_n 0, .aload_n 0, .getfield 196, .ifCond .eq 11, .iload_n 1, .ifCond .eq 7, .iconst 1, .goto 4, .iconst 0, .putfield 196, .aload_n 0, .dup, .getfield 193, .aload_n 0, .getfield 196, .ifCond .eq 7, .iconst 1, .goto 4, .iconst 0, .iadd, .putfield 193, .return_]
-- 160 CoatedBridgesModel.takesNumber(I)V
def pg160_0 : List AEnt := [(0, .iconst (0), 1, 99), (1, .istore 2, 2, 99), (2, .iconst (0), 3, 99), (3, .istore 3, 4, 99), (4, .aload 0, 5, 4), (5, .getfield 610, 8, 99), (8, .ifCond .eq 59, 11, 99), (11, .iload 3, 12, 99), (12, .iconst (3), 13, 99), (13, .if_icmp .ge 59, 16, 99), (16, .aload 0, 17, 99), (17, .invokevirtual 158, 20, 99), (20, .iconst (48), 22, 99), (22, .iconst (57), 24, 99), (24, .invokestatic 92, 27, 99), (27, .ifCond .eq 59, 30, 99), (30, .iconst (10), 32, 99), (32, .iload 2, 33, 99), (33, .imul, 34, 99), (34, .aload 0, 35, 99), (35, .invokevirtual 158, 38, 99), (38, .iadd, 39, 99), (39, .iconst (48), 41, 99), (41, .isub, 42, 99), (42, .istore 2, 43, 99), (43, .iinc 3 (1), 46, 99), (46, .aload 0, 47, 99), (47, .dup, 48, 99), (48, .getfield 608, 51, 99), (51, .iconst (1), 52, 99), (52, .iadd, 53, 99), (53, .putfield 608, 56, 99), (56, .goto 4, 59, 99), (59, .aload 0, 60, 99), (60, .aload 0, 61, 99), (61, .getfield 610, 64, 99), (64, .ifCond .eq 75, 67, 99), (67, .iload 3, 68, 99), (68, .ifCond .le 75, 71, 99), (71, .iconst (1), 72, 99)]
def pg160_1 : List AEnt := [(72, .goto 76, 75, 99), (75, .iconst (0), 76, 99), (76, .putfield 610, 79, 99), (79, .aload 0, 80, 99), (80, .getfield 612, 83, 99), (83, .iload 1, 84, 99), (84, .iload 2, 85, 99), (85, .iastore, 86, 99), (86, .return_, 87, 99)]
def pg160 : List AEnt := pg160_0 ++ (pg160_1)
def ac160_0 : List Instr := [.iconst 0, .istore_n 2, .iconst 0, .istore_n 3, .aload_n 0, .getfield 196, .ifCond .eq 51, .iload_n 3, .iconst 3, .if_icmp .ge 46, .aload_n 0, .invokevirtual 200, .bipush 48, .bipush 57, .invokestatic 40, .ifCond .eq 32, .bipush 10, .iload_n 2, .imul, .aload_n 0, .invokevirtual 200, .iadd, .bipush 48, .isub, .istore_n 2, .iinc 3 1, .aload_n 0, .dup, .getfield 193, .iconst 1, .iadd, .putfield 193, .goto (-52), .aload_n 0, .aload_n 0, .getfield 196, .ifCond .eq 11, .iload_n 3, .ifCond .le 7, .iconst 1]
def ac160_1 : List Instr := [.goto 4, .iconst 0, .putfield 196, .aload_n 0, .getfield 29, .iload_n 1, .iload_n 2, .iastore, .return_]
def ac160 : List Instr := ac160_0 ++ (ac160_1)
-- 161 CoatedBridgesModel.takesOrder()V
def pg161_0 : List AEnt := [(0, .aload 0, 1, 99), (1, .aload 0, 2, 99), (2, .getfield 608, 5, 99), (5, .putfield 609, 8, 99), (8, .aload 0, 9, 99), (9, .iconst (1), 10, 99), (10, .putfield 610, 13, 99), (13, .aload 0, 14, 99), (14, .aload 0, 15, 99), (15, .invokevirtual 158, 18, 99), (18, .putfield 611, 21, 99), (21, .aload 0, 22, 99), (22, .aload 0, 23, 99), (23, .getfield 611, 26, 99), (26, .iconst (105), 28, 99), (28, .if_icmp .eq 85, 31, 99), (31, .aload 0, 32, 99), (32, .getfield 611, 35, 99), (35, .iconst (98), 37, 99), (37, .if_icmp .eq 85, 40, 99), (40, .aload 0, 41, 99), (41, .getfield 611, 44, 99), (44, .iconst (115), 46, 99), (46, .if_icmp .eq 85, 49, 99), (49, .aload 0, 50, 99), (50, .getfield 611, 53, 99), (53, .iconst (102), 55, 99), (55, .if_icmp .eq 85, 58, 99), (58, .aload 0, 59, 99), (59, .getfield 611, 62, 99), (62, .iconst (114), 64, 99), (64, .if_icmp .eq 85, 67, 99), (67, .aload 0, 68, 99), (68, .getfield 611, 71, 99), (71, .iconst (112), 73, 99), (73, .if_icmp .eq 85, 76, 99), (76, .aload 0, 77, 99), (77, .getfield 611, 80, 99), (80, .iconst (100), 82, 99), (82, .if_icmp .ne 89, 85, 99)]
def pg161_1 : List AEnt := [(85, .iconst (1), 86, 99), (86, .goto 90, 89, 99), (89, .iconst (0), 90, 99), (90, .invokevirtual 159, 93, 99), (93, .iconst (0), 94, 99), (94, .istore 1, 95, 99), (95, .iload 1, 96, 2), (96, .aload 0, 97, 99), (97, .getfield 611, 100, 99), (100, .iconst (98), 102, 99), (102, .if_icmp .ne 109, 105, 99), (105, .iconst (3), 106, 99), (106, .goto 110, 109, 99), (109, .iconst (1), 110, 99), (110, .if_icmp .ge 146, 113, 99), (113, .iload 1, 114, 99), (114, .ifCond .le 135, 117, 99), (117, .aload 0, 118, 99), (118, .aload 0, 119, 99), (119, .invokevirtual 158, 122, 99), (122, .iconst (44), 124, 99), (124, .if_icmp .ne 131, 127, 99), (127, .iconst (1), 128, 99), (128, .goto 132, 131, 99), (131, .iconst (0), 132, 99), (132, .invokevirtual 159, 135, 99), (135, .aload 0, 136, 99), (136, .iload 1, 137, 99), (137, .invokevirtual 160, 140, 99), (140, .iinc 1 (1), 143, 99), (143, .goto 95, 146, 99), (146, .aload 0, 147, 99), (147, .aload 0, 148, 99), (148, .invokevirtual 158, 151, 99), (151, .iconst (59), 153, 99), (153, .if_icmp .ne 160, 156, 99), (156, .iconst (1), 157, 99), (157, .goto 161, 160, 99), (160, .iconst (0), 161, 99), (161, .invokevirtual 159, 164, 99)]
def pg161_2 : List AEnt := [(164, .return_, 165, 99)]
def pg161 : List AEnt := pg161_0 ++ (pg161_1 ++ (pg161_2))
def ac161_0 : List Instr := [.aload_n 0, .aload_n 0, .getfield 193, .putfield 203, .aload_n 0, .iconst 1, .putfield 196, .aload_n 0, .aload_n 0, .invokevirtual 200, .putfield 206, .aload_n 0, .aload_n 0, .getfield 206, .bipush 105, .if_icmp .eq 57, .aload_n 0, .getfield 206, .bipush 98, .if_icmp .eq 48, .aload_n 0, .getfield 206, .bipush 115, .if_icmp .eq 39, .aload_n 0, .getfield 206, .bipush 102, .if_icmp .eq 30, .aload_n 0, .getfield 206, .bipush 114, .if_icmp .eq 21, .aload_n 0, .getfield 206, .bipush 112, .if_icmp .eq 12, .aload_n 0, .getfield 206, .bipush 100, .if_icmp .ne 7]
def ac161_1 : List Instr := [.iconst 1, .goto 4, .iconst 0, .invokevirtual 209, .iconst 0, .istore_n 1, .iload_n 1, .aload_n 0, .getfield 206, .bipush 98, .if_icmp .ne 7, .iconst 3, .goto 4, .iconst 1, .if_icmp .ge 36, .iload_n 1, .ifCond .le 21, .aload_n 0, .aload_n 0, .invokevirtual 200, .bipush 44, .if_icmp .ne 7, .iconst 1, .goto 4, .iconst 0, .invokevirtual 209, .aload_n 0, .iload_n 1, .invokevirtual 213, .iinc 1 1, .goto (-48), .aload_n 0, .aload_n 0, .invokevirtual 200, .bipush 59, .if_icmp .ne 7, .iconst 1, .goto 4, .iconst 0, .invokevirtual 209]
def ac161_2 : List Instr := [.return_]
def ac161 : List Instr := ac161_0 ++ (ac161_1 ++ (ac161_2))
-- 162 CoatedBridgesModel.errorOfOrder()I
def pg162_0 : List AEnt := [(0, .aload 0, 1, 99), (1, .getfield 611, 4, 99), (4, .tableswitch 173 (98) (115) #[103, 173, 173, 173, 126, 173, 173, 92, 173, 173, 173, 173, 173, 173, 162, 173, 151, 126], 92, 99), (92, .aload 0, 93, 99), (93, .aload 0, 94, 99), (94, .getfield 612, 97, 99), (97, .iconst (0), 98, 99), (98, .iaload, 99, 99), (99, .invokevirtual 122, 102, 99), (102, .ireturn, 103, 99), (103, .aload 0, 104, 99), (104, .aload 0, 105, 99), (105, .getfield 612, 108, 99), (108, .iconst (0), 109, 99), (109, .iaload, 110, 99), (110, .aload 0, 111, 99), (111, .getfield 612, 114, 99), (114, .iconst (1), 115, 99), (115, .iaload, 116, 99), (116, .aload 0, 117, 99), (117, .getfield 612, 120, 99), (120, .iconst (2), 121, 99), (121, .iaload, 122, 99), (122, .invokevirtual 123, 125, 99), (125, .ireturn, 126, 99), (126, .aload 0, 127, 99), (127, .aload 0, 128, 99), (128, .getfield 612, 131, 99), (131, .iconst (0), 132, 99), (132, .iaload, 133, 99), (133, .aload 0, 134, 99), (134, .getfield 611, 137, 99), (137, .iconst (102), 139, 99), (139, .if_icmp .ne 146, 142, 99), (142, .iconst (1), 143, 99), (143, .goto 147, 146, 99), (146, .iconst (0), 147, 99), (147, .invokevirtual 124, 150, 99), (150, .ireturn, 151, 99), (151, .aload 0, 152, 99)]
def pg162_1 : List AEnt := [(152, .aload 0, 153, 99), (153, .getfield 612, 156, 99), (156, .iconst (0), 157, 99), (157, .iaload, 158, 99), (158, .invokevirtual 125, 161, 99), (161, .ireturn, 162, 99), (162, .aload 0, 163, 99), (163, .aload 0, 164, 99), (164, .getfield 612, 167, 99), (167, .iconst (0), 168, 99), (168, .iaload, 169, 99), (169, .invokevirtual 126, 172, 99), (172, .ireturn, 173, 99), (173, .aload 0, 174, 99), (174, .aload 0, 175, 99), (175, .getfield 612, 178, 99), (178, .iconst (0), 179, 99), (179, .iaload, 180, 99), (180, .invokevirtual 127, 183, 99), (183, .ireturn, 184, 99)]
def pg162 : List AEnt := pg162_0 ++ (pg162_1)
def ac162_0 : List Instr := [.aload_n 0, .getfield 206, .tableswitch 169 98 115 #[99, 169, 169, 169, 122, 169, 169, 88, 169, 169, 169, 169, 169, 169, 158, 169, 147, 122], .aload_n 0, .aload_n 0, .getfield 29, .iconst 0, .iaload, .invokevirtual 120, .ireturn, .aload_n 0, .aload_n 0, .getfield 29, .iconst 0, .iaload, .aload_n 0, .getfield 29, .iconst 1, .iaload, .aload_n 0, .getfield 29, .iconst 2, .iaload, .invokevirtual 129, .ireturn, .aload_n 0, .aload_n 0, .getfield 29, .iconst 0, .iaload, .aload_n 0, .getfield 206, .bipush 102, .if_icmp .ne 7, .iconst 1, .goto 4, .iconst 0, .invokevirtual 136, .ireturn, .aload_n 0]
def ac162_1 : List Instr := [.aload_n 0, .getfield 29, .iconst 0, .iaload, .invokevirtual 139, .ireturn, .aload_n 0, .aload_n 0, .getfield 29, .iconst 0, .iaload, .invokevirtual 145, .ireturn, .aload_n 0, .aload_n 0, .getfield 29, .iconst 0, .iaload, .invokevirtual 151, .ireturn]
def ac162 : List Instr := ac162_0 ++ (ac162_1)
-- 163 CoatedBridgesModel.doesOrder()I
def pg163_0 : List AEnt := [(0, .aload 0, 1, 99), (1, .getfield 611, 4, 99), (4, .tableswitch 159 (98) (115) #[103, 159, 159, 159, 126, 159, 159, 92, 159, 159, 159, 159, 159, 159, 148, 159, 137, 126], 92, 99), (92, .aload 0, 93, 99), (93, .aload 0, 94, 99), (94, .getfield 612, 97, 99), (97, .iconst (0), 98, 99), (98, .iaload, 99, 99), (99, .invokevirtual 111, 102, 99), (102, .ireturn, 103, 99), (103, .aload 0, 104, 99), (104, .aload 0, 105, 99), (105, .getfield 612, 108, 99), (108, .iconst (0), 109, 99), (109, .iaload, 110, 99), (110, .aload 0, 111, 99), (111, .getfield 612, 114, 99), (114, .iconst (1), 115, 99), (115, .iaload, 116, 99), (116, .aload 0, 117, 99), (117, .getfield 612, 120, 99), (120, .iconst (2), 121, 99), (121, .iaload, 122, 99), (122, .invokevirtual 112, 125, 99), (125, .ireturn, 126, 99), (126, .aload 0, 127, 99), (127, .aload 0, 128, 99), (128, .getfield 612, 131, 99), (131, .iconst (0), 132, 99), (132, .iaload, 133, 99), (133, .invokevirtual 113, 136, 99), (136, .ireturn, 137, 99), (137, .aload 0, 138, 99), (138, .aload 0, 139, 99), (139, .getfield 612, 142, 99), (142, .iconst (0), 143, 99), (143, .iaload, 144, 99), (144, .invokevirtual 114, 147, 99), (147, .ireturn, 148, 99), (148, .aload 0, 149, 99)]
def pg163_1 : List AEnt := [(149, .aload 0, 150, 99), (150, .getfield 612, 153, 99), (153, .iconst (0), 154, 99), (154, .iaload, 155, 99), (155, .invokevirtual 115, 158, 99), (158, .ireturn, 159, 99), (159, .aload 0, 160, 99), (160, .aload 0, 161, 99), (161, .getfield 612, 164, 99), (164, .iconst (0), 165, 99), (165, .iaload, 166, 99), (166, .invokevirtual 121, 169, 99), (169, .ireturn, 170, 99)]
def pg163 : List AEnt := pg163_0 ++ (pg163_1)
def ac163_0 : List Instr := [.aload_n 0, .getfield 206, .tableswitch 155 98 115 #[99, 155, 155, 155, 122, 155, 155, 88, 155, 155, 155, 155, 155, 155, 144, 155, 133, 122], .aload_n 0, .aload_n 0, .getfield 29, .iconst 0, .iaload, .invokevirtual 126, .ireturn, .aload_n 0, .aload_n 0, .getfield 29, .iconst 0, .iaload, .aload_n 0, .getfield 29, .iconst 1, .iaload, .aload_n 0, .getfield 29, .iconst 2, .iaload, .invokevirtual 133, .ireturn, .aload_n 0, .aload_n 0, .getfield 29, .iconst 0, .iaload, .invokevirtual 104, .ireturn, .aload_n 0, .aload_n 0, .getfield 29, .iconst 0, .iaload, .invokevirtual 142, .ireturn, .aload_n 0]
def ac163_1 : List Instr := [.aload_n 0, .getfield 29, .iconst 0, .iaload, .invokevirtual 148, .ireturn, .aload_n 0, .aload_n 0, .getfield 29, .iconst 0, .iaload, .invokevirtual 154, .ireturn]
def ac163 : List Instr := ac163_0 ++ (ac163_1)
-- 164 CoatedBridgesModel.doesAll()I
def pg164_0 : List AEnt := [(0, .iconst (0), 1, 99), (1, .istore 1, 2, 99), (2, .aload 0, 3, 99), (3, .iconst (0), 4, 99), (4, .putfield 613, 7, 99), (7, .aload 0, 8, 99), (8, .iconst (0), 9, 99), (9, .putfield 608, 12, 99), (12, .aload 0, 13, 2), (13, .getfield 613, 16, 99), (16, .ifCond .ne 115, 19, 99), (19, .aload 0, 20, 99), (20, .getfield 608, 23, 99), (23, .aload 0, 24, 99), (24, .getfield 606, 27, 99), (27, .if_icmp .ge 115, 30, 99), (30, .aload 0, 31, 99), (31, .invokevirtual 161, 34, 99), (34, .aload 0, 35, 99), (35, .getfield 610, 38, 99), (38, .ifCond .eq 48, 41, 99), (41, .aload 0, 42, 99), (42, .invokevirtual 162, 45, 99), (45, .goto 49, 48, 99), (48, .iconst (0), 49, 99), (49, .istore 2, 50, 99), (50, .aload 0, 51, 99), (51, .getfield 610, 54, 99), (54, .ifCond .eq 61, 57, 99), (57, .iload 2, 58, 99), (58, .ifCond .ge 104, 61, 99), (61, .aload 0, 62, 99), (62, .aload 0, 63, 99), (63, .getfield 610, 66, 99), (66, .ifCond .eq 73, 69, 99), (69, .iconst (2), 70, 99), (70, .goto 74, 73, 99), (73, .iconst (1), 74, 99), (74, .putfield 613, 77, 99), (77, .aload 0, 78, 99)]
def pg164_1 : List AEnt := [(78, .aload 0, 79, 99), (79, .getfield 610, 82, 99), (82, .ifCond .eq 89, 85, 99), (85, .iload 2, 86, 99), (86, .goto 98, 89, 99), (89, .aload 0, 90, 99), (90, .getfield 608, 93, 99), (93, .aload 0, 94, 99), (94, .getfield 609, 97, 99), (97, .isub, 98, 99), (98, .putfield 614, 101, 99), (101, .goto 112, 104, 99), (104, .aload 0, 105, 99), (105, .invokevirtual 163, 108, 99), (108, .istore 3, 109, 99), (109, .iinc 1 (1), 112, 99), (112, .goto 12, 115, 99), (115, .iload 1, 116, 99), (116, .ireturn, 117, 99)]
def pg164 : List AEnt := pg164_0 ++ (pg164_1)
def ac164_0 : List Instr := [.iconst 0, .istore_n 1, .aload_n 0, .iconst 0, .putfield 216, .aload_n 0, .iconst 0, .putfield 193, .aload_n 0, .getfield 216, .ifCond .ne 99, .aload_n 0, .getfield 193, .aload_n 0, .getfield 190, .if_icmp .ge 88, .aload_n 0, .invokevirtual 219, .aload_n 0, .getfield 196, .ifCond .eq 10, .aload_n 0, .invokevirtual 222, .goto 4, .iconst 0, .istore_n 2, .aload_n 0, .getfield 196, .ifCond .eq 7, .iload_n 2, .ifCond .ge 46, .aload_n 0, .aload_n 0, .getfield 196, .ifCond .eq 7, .iconst 2, .goto 4, .iconst 1, .putfield 216, .aload_n 0]
def ac164_1 : List Instr := [.aload_n 0, .getfield 196, .ifCond .eq 7, .iload_n 2, .goto 12, .aload_n 0, .getfield 193, .aload_n 0, .getfield 203, .isub, .putfield 225, .goto 11, .aload_n 0, .invokevirtual 228, .istore_n 3, .iinc 1 1, .goto (-100), .iload_n 1, .ireturn]
def ac164 : List Instr := ac164_0 ++ (ac164_1)
-- 165 CoatedBridgesModel.fault(I)I
def pg165_0 : List AEnt := [(0, .iload 1, 1, 99), (1, .iconst (0), 2, 99), (2, .iconst (2), 3, 99), (3, .invokestatic 92, 6, 99), (6, .ifCond .ne 12, 9, 99), (9, .iconst (-1000001), 11, 99), (11, .ireturn, 12, 99), (12, .aload 0, 13, 99), (13, .getfield 600, 16, 99), (16, .iconst (0), 17, 99), (17, .aload 0, 18, 99), (18, .getfield 602, 21, 99), (21, .iconst (0), 22, 99), (22, .invokestatic 93, 25, 99), (25, .aload 0, 26, 99), (26, .invokevirtual 164, 29, 99), (29, .istore 2, 30, 99), (30, .aload 0, 31, 99), (31, .getfield 602, 34, 99), (34, .iconst (0), 35, 99), (35, .aload 0, 36, 99), (36, .getfield 600, 39, 99), (39, .iconst (0), 40, 99), (40, .invokestatic 93, 43, 99), (43, .aload 0, 44, 99), (44, .getfield 613, 47, 99), (47, .ifCond .ne 55, 50, 99), (50, .iconst (-1000004), 52, 99), (52, .goto 82, 55, 99), (55, .iload 1, 56, 99), (56, .ifCond .ne 66, 59, 99), (59, .aload 0, 60, 99), (60, .getfield 609, 63, 99), (63, .goto 82, 66, 99), (66, .iload 1, 67, 99), (67, .iconst (1), 68, 99), (68, .if_icmp .ne 78, 71, 99), (71, .aload 0, 72, 99), (72, .getfield 613, 75, 99), (75, .goto 82, 78, 99)]
def pg165_1 : List AEnt := [(78, .aload 0, 79, 99), (79, .getfield 614, 82, 99), (82, .ireturn, 83, 99)]
def pg165 : List AEnt := pg165_0 ++ (pg165_1)
def ac165_0 : List Instr := [.iload_n 1, .iconst 0, .iconst 2, .invokestatic 40, .ifCond .ne 6, .ldc 110, .ireturn, .aload_n 0, .getfield 7, .iconst 0, .aload_n 0, .getfield 16, .iconst 0, .invokestatic 36, .aload_n 0, .invokevirtual 231, .istore_n 2, .aload_n 0, .getfield 16, .iconst 0, .aload_n 0, .getfield 7, .iconst 0, .invokestatic 36, .aload_n 0, .getfield 216, .ifCond .ne 8, .ldc 55, .goto 30, .iload_n 1, .ifCond .ne 10, .aload_n 0, .getfield 203, .goto 19, .iload_n 1, .iconst 1, .if_icmp .ne 10, .aload_n 0, .getfield 216, .goto 7]
def ac165_1 : List Instr := [.aload_n 0, .getfield 225, .ireturn]
def ac165 : List Instr := ac165_0 ++ (ac165_1)
-- 166 CoatedBridgesModel.play()I
def pg166 : List AEnt := [(0, .aload 0, 1, 99), (1, .getfield 600, 4, 99), (4, .iconst (0), 5, 99), (5, .aload 0, 6, 99), (6, .getfield 602, 9, 99), (9, .iconst (0), 10, 99), (10, .invokestatic 93, 13, 99), (13, .aload 0, 14, 99), (14, .invokevirtual 164, 17, 99), (17, .istore 1, 18, 99), (18, .aload 0, 19, 99), (19, .getfield 602, 22, 99), (22, .iconst (0), 23, 99), (23, .aload 0, 24, 99), (24, .getfield 600, 27, 99), (27, .iconst (0), 28, 99), (28, .invokestatic 93, 31, 99), (31, .aload 0, 32, 99), (32, .getfield 613, 35, 99), (35, .ifCond .le 41, 38, 99), (38, .iconst (-1000002), 40, 99), (40, .ireturn, 41, 99), (41, .aload 0, 42, 99), (42, .invokevirtual 94, 45, 99), (45, .aload 0, 46, 99), (46, .invokevirtual 164, 49, 99), (49, .istore 1, 50, 99), (50, .iload 1, 51, 99), (51, .ireturn, 52, 99)]
def ac166 : List Instr := [.aload_n 0, .getfield 7, .iconst 0, .aload_n 0, .getfield 16, .iconst 0, .invokestatic 36, .aload_n 0, .invokevirtual 231, .istore_n 1, .aload_n 0, .getfield 16, .iconst 0, .aload_n 0, .getfield 7, .iconst 0, .invokestatic 36, .aload_n 0, .getfield 216, .ifCond .le 6, .ldc 118, .ireturn, .aload_n 0, .invokevirtual 123, .aload_n 0, .invokevirtual 231, .istore_n 1, .iload_n 1, .ireturn]
-- 167 java/lang/Float.isNaN(F)Z
def pg167 : List AEnt := [(0, .fload 0, 1, 99), (1, .fload 0, 2, 99), (2, .fcmp .l, 3, 99), (3, .ifCond .eq 10, 6, 99), (6, .iconst (1), 7, 99), (7, .goto 11, 10, 99), (10, .iconst (0), 11, 99), (11, .freturn, 12, 99)]
def ac167 : List Instr := [.fload_n 0, .fload_n 0, .fcmp .l, .ifCond .eq 7, .iconst 1, .goto 4, .iconst 0, .ireturn]
-- 168 java/lang/Float.floatToIntBits(F)I
def pg168 : List AEnt := [(0, .fload 0, 1, 99), (1, .invokestatic 167, 4, 99), (4, .ifCond .ne 12, 7, 99), (7, .fload 0, 8, 99), (8, .invokedynamic 1, 11, 99), (11, .ireturn, 12, 99), (12, .iconst (2143289344), 14, 99), (14, .ireturn, 15, 99)]
def ac168 : List Instr := [.fload_n 0, .invokestatic 59, .ifCond .ne 8, .fload_n 0, .invokestatic 74, .ireturn, .ldc 77, .ireturn]
-- 169 java/lang/Integer.numberOfTrailingZeros(I)I
def pg169_0 : List AEnt := [(0, .iload 0, 1, 99), (1, .iconst (-1), 2, 99), (2, .ixor, 3, 99), (3, .iload 0, 4, 99), (4, .iconst (1), 5, 99), (5, .isub, 6, 99), (6, .iand, 7, 99), (7, .istore 0, 8, 99), (8, .iload 0, 9, 99), (9, .ifCond .gt 17, 12, 99), (12, .iload 0, 13, 99), (13, .iconst (32), 15, 99), (15, .iand, 16, 99), (16, .ireturn, 17, 99), (17, .iconst (1), 18, 99), (18, .istore 1, 19, 99), (19, .iload 0, 20, 99), (20, .iconst (65536), 23, 99), (23, .if_icmp .le 34, 26, 99), (26, .iinc 1 (16), 29, 99), (29, .iload 0, 30, 99), (30, .iconst (16), 32, 99), (32, .iushr, 33, 99), (33, .istore 0, 34, 99), (34, .iload 0, 35, 99), (35, .iconst (256), 38, 99), (38, .if_icmp .le 49, 41, 99), (41, .iinc 1 (8), 44, 99), (44, .iload 0, 45, 99), (45, .iconst (8), 47, 99), (47, .iushr, 48, 99), (48, .istore 0, 49, 99), (49, .iload 0, 50, 99), (50, .iconst (16), 52, 99), (52, .if_icmp .le 62, 55, 99), (55, .iinc 1 (4), 58, 99), (58, .iload 0, 59, 99), (59, .iconst (4), 60, 99), (60, .iushr, 61, 99), (61, .istore 0, 62, 99)]
def pg169_1 : List AEnt := [(62, .iload 0, 63, 99), (63, .iconst (4), 64, 99), (64, .if_icmp .le 74, 67, 99), (67, .iinc 1 (2), 70, 99), (70, .iload 0, 71, 99), (71, .iconst (2), 72, 99), (72, .iushr, 73, 99), (73, .istore 0, 74, 99), (74, .iload 1, 75, 99), (75, .iload 0, 76, 99), (76, .iconst (1), 77, 99), (77, .iushr, 78, 99), (78, .iadd, 79, 99), (79, .ireturn, 80, 99)]
def pg169 : List AEnt := pg169_0 ++ (pg169_1)
def ac169_0 : List Instr := [.iload_n 0, .iconst (-1), .ixor, .iload_n 0, .iconst 1, .isub, .iand, .istore_n 0, .iload_n 0, .ifCond .gt 8, .iload_n 0, .bipush 32, .iand, .ireturn, .iconst 1, .istore_n 1, .iload_n 0, .ldc_w 264, .if_icmp .le 11, .iinc 1 16, .iload_n 0, .bipush 16, .iushr, .istore_n 0, .iload_n 0, .sipush 256, .if_icmp .le 11, .iinc 1 8, .iload_n 0, .bipush 8, .iushr, .istore_n 0, .iload_n 0, .bipush 16, .if_icmp .le 10, .iinc 1 4, .iload_n 0, .iconst 4, .iushr, .istore_n 0]
def ac169_1 : List Instr := [.iload_n 0, .iconst 4, .if_icmp .le 10, .iinc 1 2, .iload_n 0, .iconst 2, .iushr, .istore_n 0, .iload_n 1, .iload_n 0, .iconst 1, .iushr, .iadd, .ireturn]
def ac169 : List Instr := ac169_0 ++ (ac169_1)
-- 170 java/lang/Integer.bitCount(I)I
def pg170_0 : List AEnt := [(0, .iload 0, 1, 99), (1, .iload 0, 2, 99), (2, .iconst (1), 3, 99), (3, .iushr, 4, 99), (4, .iconst (1431655765), 7, 99), (7, .iand, 8, 99), (8, .isub, 9, 99), (9, .istore 0, 10, 99), (10, .iload 0, 11, 99), (11, .iconst (858993459), 14, 99), (14, .iand, 15, 99), (15, .iload 0, 16, 99), (16, .iconst (2), 17, 99), (17, .iushr, 18, 99), (18, .iconst (858993459), 21, 99), (21, .iand, 22, 99), (22, .iadd, 23, 99), (23, .istore 0, 24, 99), (24, .iload 0, 25, 99), (25, .iload 0, 26, 99), (26, .iconst (4), 27, 99), (27, .iushr, 28, 99), (28, .iadd, 29, 99), (29, .iconst (252645135), 32, 99), (32, .iand, 33, 99), (33, .istore 0, 34, 99), (34, .iload 0, 35, 99), (35, .iload 0, 36, 99), (36, .iconst (8), 38, 99), (38, .iushr, 39, 99), (39, .iadd, 40, 99), (40, .istore 0, 41, 99), (41, .iload 0, 42, 99), (42, .iload 0, 43, 99), (43, .iconst (16), 45, 99), (45, .iushr, 46, 99), (46, .iadd, 47, 99), (47, .istore 0, 48, 99), (48, .iload 0, 49, 99), (49, .iconst (63), 51, 99)]
def pg170_1 : List AEnt := [(51, .iand, 52, 99), (52, .ireturn, 53, 99)]
def pg170 : List AEnt := pg170_0 ++ (pg170_1)
def ac170_0 : List Instr := [.iload_n 0, .iload_n 0, .iconst 1, .iushr, .ldc_w 265, .iand, .isub, .istore_n 0, .iload_n 0, .ldc_w 266, .iand, .iload_n 0, .iconst 2, .iushr, .ldc_w 266, .iand, .iadd, .istore_n 0, .iload_n 0, .iload_n 0, .iconst 4, .iushr, .iadd, .ldc_w 267, .iand, .istore_n 0, .iload_n 0, .iload_n 0, .bipush 8, .iushr, .iadd, .istore_n 0, .iload_n 0, .iload_n 0, .bipush 16, .iushr, .iadd, .istore_n 0, .iload_n 0, .bipush 63]
def ac170_1 : List Instr := [.iand, .ireturn]
def ac170 : List Instr := ac170_0 ++ (ac170_1)
-- 171 java/lang/Math.max(II)I
def pg171 : List AEnt := [(0, .iload 0, 1, 99), (1, .iload 1, 2, 99), (2, .if_icmp .lt 9, 5, 99), (5, .iload 0, 6, 99), (6, .goto 10, 9, 99), (9, .iload 1, 10, 99), (10, .ireturn, 11, 99)]
def ac171 : List Instr := [.iload_n 0, .iload_n 1, .if_icmp .lt 7, .iload_n 0, .goto 4, .iload_n 1, .ireturn]
-- 172 java/lang/Math.min(II)I
def pg172 : List AEnt := [(0, .iload 0, 1, 99), (1, .iload 1, 2, 99), (2, .if_icmp .gt 9, 5, 99), (5, .iload 0, 6, 99), (6, .goto 10, 9, 99), (9, .iload 1, 10, 99), (10, .ireturn, 11, 99)]
def ac172 : List Instr := [.iload_n 0, .iload_n 1, .if_icmp .gt 7, .iload_n 0, .goto 4, .iload_n 1, .ireturn]
-- 173 CoatedBridgesLaw.law([I)Z
def pg173_0 : List AEnt := [(0, .new 5, 3, 99), (3, .dup, 4, 99), (4, .invokevirtual 57, 7, 99), (7, .astore 1, 8, 99), (8, .new 6, 11, 99), (11, .dup, 12, 99), (12, .invokevirtual 91, 15, 99), (15, .astore 2, 16, 99), (16, .iconst (0), 17, 99), (17, .istore 3, 18, 99), (18, .iload 3, 19, 4), (19, .aload 0, 20, 99), (20, .arraylength, 21, 99), (21, .iconst (4), 22, 99), (22, .isub, 23, 99), (23, .if_icmp .gt 722, 26, 99), (26, .aload 0, 27, 99), (27, .iload 3, 28, 99), (28, .laload, 29, 99), (29, .iconst (31), 31, 99), (31, .iand, 32, 99), (32, .tableswitch 716 (0) (23) #[144, 167, 210, 243, 266, 289, 312, 345, 378, 411, 434, 467, 500, 513, 536, 559, 572, 595, 608, 631, 644, 667, 680, 703], 144, 99), (144, .aload 1, 145, 99), (145, .aload 0, 146, 99), (146, .iload 3, 147, 99), (147, .iconst (1), 148, 99), (148, .iadd, 149, 99), (149, .laload, 150, 99), (150, .invokevirtual 58, 153, 99), (153, .aload 2, 154, 99), (154, .aload 0, 155, 99), (155, .iload 3, 156, 99), (156, .iconst (1), 157, 99), (157, .iadd, 158, 99), (158, .laload, 159, 99), (159, .invokevirtual 128, 162, 99), (162, .if_icmp .eq 716, 165, 99), (165, .iconst (0), 166, 99), (166, .freturn, 167, 99), (167, .aload 1, 168, 99)]
def pg173_1 : List AEnt := [(168, .aload 0, 169, 99), (169, .iload 3, 170, 99), (170, .iconst (1), 171, 99), (171, .iadd, 172, 99), (172, .laload, 173, 99), (173, .aload 0, 174, 99), (174, .iload 3, 175, 99), (175, .iconst (2), 176, 99), (176, .iadd, 177, 99), (177, .laload, 178, 99), (178, .aload 0, 179, 99), (179, .iload 3, 180, 99), (180, .iconst (3), 181, 99), (181, .iadd, 182, 99), (182, .laload, 183, 99), (183, .invokevirtual 59, 186, 99), (186, .aload 2, 187, 99), (187, .aload 0, 188, 99), (188, .iload 3, 189, 99), (189, .iconst (1), 190, 99), (190, .iadd, 191, 99), (191, .laload, 192, 99), (192, .aload 0, 193, 99), (193, .iload 3, 194, 99), (194, .iconst (2), 195, 99), (195, .iadd, 196, 99), (196, .laload, 197, 99), (197, .aload 0, 198, 99), (198, .iload 3, 199, 99), (199, .iconst (3), 200, 99), (200, .iadd, 201, 99), (201, .laload, 202, 99), (202, .invokevirtual 129, 205, 99), (205, .if_icmp .eq 716, 208, 99), (208, .iconst (0), 209, 99), (209, .freturn, 210, 99), (210, .aload 1, 211, 99), (211, .aload 0, 212, 99), (212, .iload 3, 213, 99), (213, .iconst (1), 214, 99)]
def pg173_2 : List AEnt := [(214, .iadd, 215, 99), (215, .laload, 216, 99), (216, .aload 0, 217, 99), (217, .iload 3, 218, 99), (218, .iconst (2), 219, 99), (219, .iadd, 220, 99), (220, .laload, 221, 99), (221, .invokevirtual 60, 224, 99), (224, .aload 2, 225, 99), (225, .aload 0, 226, 99), (226, .iload 3, 227, 99), (227, .iconst (1), 228, 99), (228, .iadd, 229, 99), (229, .laload, 230, 99), (230, .aload 0, 231, 99), (231, .iload 3, 232, 99), (232, .iconst (2), 233, 99), (233, .iadd, 234, 99), (234, .laload, 235, 99), (235, .invokevirtual 130, 238, 99), (238, .if_icmp .eq 716, 241, 99), (241, .iconst (0), 242, 99), (242, .freturn, 243, 99), (243, .aload 1, 244, 99), (244, .aload 0, 245, 99), (245, .iload 3, 246, 99), (246, .iconst (1), 247, 99), (247, .iadd, 248, 99), (248, .laload, 249, 99), (249, .invokevirtual 61, 252, 99), (252, .aload 2, 253, 99), (253, .aload 0, 254, 99), (254, .iload 3, 255, 99), (255, .iconst (1), 256, 99), (256, .iadd, 257, 99), (257, .laload, 258, 99), (258, .invokevirtual 131, 261, 99), (261, .if_icmp .eq 716, 264, 99), (264, .iconst (0), 265, 99), (265, .freturn, 266, 99)]
def pg173_3 : List AEnt := [(266, .aload 1, 267, 99), (267, .aload 0, 268, 99), (268, .iload 3, 269, 99), (269, .iconst (1), 270, 99), (270, .iadd, 271, 99), (271, .laload, 272, 99), (272, .invokevirtual 62, 275, 99), (275, .aload 2, 276, 99), (276, .aload 0, 277, 99), (277, .iload 3, 278, 99), (278, .iconst (1), 279, 99), (279, .iadd, 280, 99), (280, .laload, 281, 99), (281, .invokevirtual 132, 284, 99), (284, .if_icmp .eq 716, 287, 99), (287, .iconst (0), 288, 99), (288, .freturn, 289, 99), (289, .aload 1, 290, 99), (290, .aload 0, 291, 99), (291, .iload 3, 292, 99), (292, .iconst (1), 293, 99), (293, .iadd, 294, 99), (294, .laload, 295, 99), (295, .invokevirtual 63, 298, 99), (298, .aload 2, 299, 99), (299, .aload 0, 300, 99), (300, .iload 3, 301, 99), (301, .iconst (1), 302, 99), (302, .iadd, 303, 99), (303, .laload, 304, 99), (304, .invokevirtual 133, 307, 99), (307, .if_icmp .eq 716, 310, 99), (310, .iconst (0), 311, 99), (311, .freturn, 312, 99), (312, .aload 1, 313, 99), (313, .aload 0, 314, 99), (314, .iload 3, 315, 99), (315, .iconst (1), 316, 99), (316, .iadd, 317, 99), (317, .laload, 318, 99)]
def pg173_4 : List AEnt := [(318, .aload 0, 319, 99), (319, .iload 3, 320, 99), (320, .iconst (2), 321, 99), (321, .iadd, 322, 99), (322, .laload, 323, 99), (323, .invokevirtual 64, 326, 99), (326, .aload 2, 327, 99), (327, .aload 0, 328, 99), (328, .iload 3, 329, 99), (329, .iconst (1), 330, 99), (330, .iadd, 331, 99), (331, .laload, 332, 99), (332, .aload 0, 333, 99), (333, .iload 3, 334, 99), (334, .iconst (2), 335, 99), (335, .iadd, 336, 99), (336, .laload, 337, 99), (337, .invokevirtual 135, 340, 99), (340, .if_icmp .eq 716, 343, 99), (343, .iconst (0), 344, 99), (344, .freturn, 345, 99), (345, .aload 1, 346, 99), (346, .aload 0, 347, 99), (347, .iload 3, 348, 99), (348, .iconst (1), 349, 99), (349, .iadd, 350, 99), (350, .laload, 351, 99), (351, .aload 0, 352, 99), (352, .iload 3, 353, 99), (353, .iconst (2), 354, 99), (354, .iadd, 355, 99), (355, .laload, 356, 99), (356, .invokevirtual 65, 359, 99), (359, .aload 2, 360, 99), (360, .aload 0, 361, 99), (361, .iload 3, 362, 99), (362, .iconst (1), 363, 99), (363, .iadd, 364, 99), (364, .laload, 365, 99), (365, .aload 0, 366, 99)]
def pg173_5 : List AEnt := [(366, .iload 3, 367, 99), (367, .iconst (2), 368, 99), (368, .iadd, 369, 99), (369, .laload, 370, 99), (370, .invokevirtual 137, 373, 99), (373, .if_icmp .eq 716, 376, 99), (376, .iconst (0), 377, 99), (377, .freturn, 378, 99), (378, .aload 1, 379, 99), (379, .aload 0, 380, 99), (380, .iload 3, 381, 99), (381, .iconst (1), 382, 99), (382, .iadd, 383, 99), (383, .laload, 384, 99), (384, .aload 0, 385, 99), (385, .iload 3, 386, 99), (386, .iconst (2), 387, 99), (387, .iadd, 388, 99), (388, .laload, 389, 99), (389, .invokevirtual 66, 392, 99), (392, .aload 2, 393, 99), (393, .aload 0, 394, 99), (394, .iload 3, 395, 99), (395, .iconst (1), 396, 99), (396, .iadd, 397, 99), (397, .laload, 398, 99), (398, .aload 0, 399, 99), (399, .iload 3, 400, 99), (400, .iconst (2), 401, 99), (401, .iadd, 402, 99), (402, .laload, 403, 99), (403, .invokevirtual 140, 406, 99), (406, .if_icmp .eq 716, 409, 99), (409, .iconst (0), 410, 99), (410, .freturn, 411, 99), (411, .aload 1, 412, 99), (412, .aload 0, 413, 99), (413, .iload 3, 414, 99), (414, .iconst (1), 415, 99), (415, .iadd, 416, 99)]
def pg173_6 : List AEnt := [(416, .laload, 417, 99), (417, .invokevirtual 67, 420, 99), (420, .aload 2, 421, 99), (421, .aload 0, 422, 99), (422, .iload 3, 423, 99), (423, .iconst (1), 424, 99), (424, .iadd, 425, 99), (425, .laload, 426, 99), (426, .invokevirtual 141, 429, 99), (429, .if_icmp .eq 716, 432, 99), (432, .iconst (0), 433, 99), (433, .freturn, 434, 99), (434, .aload 1, 435, 99), (435, .aload 0, 436, 99), (436, .iload 3, 437, 99), (437, .iconst (1), 438, 99), (438, .iadd, 439, 99), (439, .laload, 440, 99), (440, .aload 0, 441, 99), (441, .iload 3, 442, 99), (442, .iconst (2), 443, 99), (443, .iadd, 444, 99), (444, .laload, 445, 99), (445, .invokevirtual 68, 448, 99), (448, .aload 2, 449, 99), (449, .aload 0, 450, 99), (450, .iload 3, 451, 99), (451, .iconst (1), 452, 99), (452, .iadd, 453, 99), (453, .laload, 454, 99), (454, .aload 0, 455, 99), (455, .iload 3, 456, 99), (456, .iconst (2), 457, 99), (457, .iadd, 458, 99), (458, .laload, 459, 99), (459, .invokevirtual 142, 462, 99), (462, .if_icmp .eq 716, 465, 99), (465, .iconst (0), 466, 99), (466, .freturn, 467, 99), (467, .aload 1, 468, 99)]
def pg173_7 : List AEnt := [(468, .aload 0, 469, 99), (469, .iload 3, 470, 99), (470, .iconst (1), 471, 99), (471, .iadd, 472, 99), (472, .laload, 473, 99), (473, .aload 0, 474, 99), (474, .iload 3, 475, 99), (475, .iconst (2), 476, 99), (476, .iadd, 477, 99), (477, .laload, 478, 99), (478, .invokevirtual 69, 481, 99), (481, .aload 2, 482, 99), (482, .aload 0, 483, 99), (483, .iload 3, 484, 99), (484, .iconst (1), 485, 99), (485, .iadd, 486, 99), (486, .laload, 487, 99), (487, .aload 0, 488, 99), (488, .iload 3, 489, 99), (489, .iconst (2), 490, 99), (490, .iadd, 491, 99), (491, .laload, 492, 99), (492, .invokevirtual 144, 495, 99), (495, .if_icmp .eq 716, 498, 99), (498, .iconst (0), 499, 99), (499, .freturn, 500, 99), (500, .aload 1, 501, 99), (501, .invokevirtual 70, 504, 99), (504, .aload 2, 505, 99), (505, .invokevirtual 145, 508, 99), (508, .if_icmp .eq 716, 511, 99), (511, .iconst (0), 512, 99), (512, .freturn, 513, 99), (513, .aload 1, 514, 99), (514, .aload 0, 515, 99), (515, .iload 3, 516, 99), (516, .iconst (1), 517, 99), (517, .iadd, 518, 99), (518, .laload, 519, 99), (519, .invokevirtual 71, 522, 99)]
def pg173_8 : List AEnt := [(522, .aload 2, 523, 99), (523, .aload 0, 524, 99), (524, .iload 3, 525, 99), (525, .iconst (1), 526, 99), (526, .iadd, 527, 99), (527, .laload, 528, 99), (528, .invokevirtual 146, 531, 99), (531, .if_icmp .eq 716, 534, 99), (534, .iconst (0), 535, 99), (535, .freturn, 536, 99), (536, .aload 1, 537, 99), (537, .aload 0, 538, 99), (538, .iload 3, 539, 99), (539, .iconst (1), 540, 99), (540, .iadd, 541, 99), (541, .laload, 542, 99), (542, .invokevirtual 72, 545, 99), (545, .aload 2, 546, 99), (546, .aload 0, 547, 99), (547, .iload 3, 548, 99), (548, .iconst (1), 549, 99), (549, .iadd, 550, 99), (550, .laload, 551, 99), (551, .invokevirtual 147, 554, 99), (554, .if_icmp .eq 716, 557, 99), (557, .iconst (0), 558, 99), (558, .freturn, 559, 99), (559, .aload 1, 560, 99), (560, .invokevirtual 73, 563, 99), (563, .aload 2, 564, 99), (564, .invokevirtual 148, 567, 99), (567, .if_icmp .eq 716, 570, 99), (570, .iconst (0), 571, 99), (571, .freturn, 572, 99), (572, .aload 1, 573, 99), (573, .aload 0, 574, 99), (574, .iload 3, 575, 99), (575, .iconst (1), 576, 99), (576, .iadd, 577, 99), (577, .laload, 578, 99)]
def pg173_9 : List AEnt := [(578, .invokevirtual 74, 581, 99), (581, .aload 2, 582, 99), (582, .aload 0, 583, 99), (583, .iload 3, 584, 99), (584, .iconst (1), 585, 99), (585, .iadd, 586, 99), (586, .laload, 587, 99), (587, .invokevirtual 149, 590, 99), (590, .if_icmp .eq 716, 593, 99), (593, .iconst (0), 594, 99), (594, .freturn, 595, 99), (595, .aload 1, 596, 99), (596, .invokevirtual 75, 599, 99), (599, .aload 2, 600, 99), (600, .invokevirtual 150, 603, 99), (603, .if_icmp .eq 716, 606, 99), (606, .iconst (0), 607, 99), (607, .freturn, 608, 99), (608, .aload 1, 609, 99), (609, .aload 0, 610, 99), (610, .iload 3, 611, 99), (611, .iconst (1), 612, 99), (612, .iadd, 613, 99), (613, .laload, 614, 99), (614, .invokevirtual 76, 617, 99), (617, .aload 2, 618, 99), (618, .aload 0, 619, 99), (619, .iload 3, 620, 99), (620, .iconst (1), 621, 99), (621, .iadd, 622, 99), (622, .laload, 623, 99), (623, .invokevirtual 155, 626, 99), (626, .if_icmp .eq 716, 629, 99), (629, .iconst (0), 630, 99), (630, .freturn, 631, 99), (631, .aload 1, 632, 99), (632, .invokevirtual 77, 635, 99), (635, .aload 2, 636, 99), (636, .invokevirtual 136, 639, 99), (639, .if_icmp .eq 716, 642, 99)]
def pg173_10 : List AEnt := [(642, .iconst (0), 643, 99), (643, .freturn, 644, 99), (644, .aload 1, 645, 99), (645, .aload 0, 646, 99), (646, .iload 3, 647, 99), (647, .iconst (1), 648, 99), (648, .iadd, 649, 99), (649, .laload, 650, 99), (650, .invokevirtual 78, 653, 99), (653, .aload 2, 654, 99), (654, .aload 0, 655, 99), (655, .iload 3, 656, 99), (656, .iconst (1), 657, 99), (657, .iadd, 658, 99), (658, .laload, 659, 99), (659, .invokevirtual 156, 662, 99), (662, .if_icmp .eq 716, 665, 99), (665, .iconst (0), 666, 99), (666, .freturn, 667, 99), (667, .aload 1, 668, 99), (668, .invokevirtual 79, 671, 99), (671, .aload 2, 672, 99), (672, .invokevirtual 157, 675, 99), (675, .if_icmp .eq 716, 678, 99), (678, .iconst (0), 679, 99), (679, .freturn, 680, 99), (680, .aload 1, 681, 99), (681, .aload 0, 682, 99), (682, .iload 3, 683, 99), (683, .iconst (1), 684, 99), (684, .iadd, 685, 99), (685, .laload, 686, 99), (686, .invokevirtual 80, 689, 99), (689, .aload 2, 690, 99), (690, .aload 0, 691, 99), (691, .iload 3, 692, 99), (692, .iconst (1), 693, 99), (693, .iadd, 694, 99), (694, .laload, 695, 99), (695, .invokevirtual 165, 698, 99)]
def pg173_11 : List AEnt := [(698, .if_icmp .eq 716, 701, 99), (701, .iconst (0), 702, 99), (702, .freturn, 703, 99), (703, .aload 1, 704, 99), (704, .invokevirtual 81, 707, 99), (707, .aload 2, 708, 99), (708, .invokevirtual 166, 711, 99), (711, .if_icmp .eq 716, 714, 99), (714, .iconst (0), 715, 99), (715, .freturn, 716, 99), (716, .iinc 3 (4), 719, 99), (719, .goto 18, 722, 99), (722, .iconst (1), 723, 99), (723, .freturn, 724, 99)]
def pg173 : List AEnt := pg173_0 ++ (pg173_1 ++ (pg173_2 ++ (pg173_3 ++ (pg173_4 ++ (pg173_5 ++ (pg173_6 ++ (pg173_7 ++ (pg173_8 ++ (pg173_9 ++ (pg173_10 ++ (pg173_11)))))))))))
def ac173_0 : List Instr := [.new 7, .dup, .invokespecial 9, .astore_n 1, .new 10, .dup, .invokespecial 12, .astore_n 2, .iconst 0, .istore_n 3, .iload_n 3, .aload_n 0, .arraylength, .iconst 4, .isub, .if_icmp .gt 699, .aload_n 0, .iload_n 3, .iaload, .bipush 31, .iand, .tableswitch 684 0 23 #[112, 135, 178, 211, 234, 257, 280, 313, 346, 379, 402, 435, 468, 481, 504, 527, 540, 563, 576, 599, 612, 635, 648, 671], .aload_n 1, .aload_n 0, .iload_n 3, .iconst 1, .iadd, .iaload, .invokevirtual 13, .aload_n 2, .aload_n 0, .iload_n 3, .iconst 1, .iadd, .iaload, .invokevirtual 17, .if_icmp .eq 554, .iconst 0, .ireturn, .aload_n 1]
def ac173_1 : List Instr := [.aload_n 0, .iload_n 3, .iconst 1, .iadd, .iaload, .aload_n 0, .iload_n 3, .iconst 2, .iadd, .iaload, .aload_n 0, .iload_n 3, .iconst 3, .iadd, .iaload, .invokevirtual 18, .aload_n 2, .aload_n 0, .iload_n 3, .iconst 1, .iadd, .iaload, .aload_n 0, .iload_n 3, .iconst 2, .iadd, .iaload, .aload_n 0, .iload_n 3, .iconst 3, .iadd, .iaload, .invokevirtual 22, .if_icmp .eq 511, .iconst 0, .ireturn, .aload_n 1, .aload_n 0, .iload_n 3, .iconst 1]
def ac173_2 : List Instr := [.iadd, .iaload, .aload_n 0, .iload_n 3, .iconst 2, .iadd, .iaload, .invokevirtual 23, .aload_n 2, .aload_n 0, .iload_n 3, .iconst 1, .iadd, .iaload, .aload_n 0, .iload_n 3, .iconst 2, .iadd, .iaload, .invokevirtual 27, .if_icmp .eq 478, .iconst 0, .ireturn, .aload_n 1, .aload_n 0, .iload_n 3, .iconst 1, .iadd, .iaload, .invokevirtual 28, .aload_n 2, .aload_n 0, .iload_n 3, .iconst 1, .iadd, .iaload, .invokevirtual 31, .if_icmp .eq 455, .iconst 0, .ireturn]
def ac173_3 : List Instr := [.aload_n 1, .aload_n 0, .iload_n 3, .iconst 1, .iadd, .iaload, .invokevirtual 32, .aload_n 2, .aload_n 0, .iload_n 3, .iconst 1, .iadd, .iaload, .invokevirtual 35, .if_icmp .eq 432, .iconst 0, .ireturn, .aload_n 1, .aload_n 0, .iload_n 3, .iconst 1, .iadd, .iaload, .invokevirtual 36, .aload_n 2, .aload_n 0, .iload_n 3, .iconst 1, .iadd, .iaload, .invokevirtual 39, .if_icmp .eq 409, .iconst 0, .ireturn, .aload_n 1, .aload_n 0, .iload_n 3, .iconst 1, .iadd, .iaload]
def ac173_4 : List Instr := [.aload_n 0, .iload_n 3, .iconst 2, .iadd, .iaload, .invokevirtual 40, .aload_n 2, .aload_n 0, .iload_n 3, .iconst 1, .iadd, .iaload, .aload_n 0, .iload_n 3, .iconst 2, .iadd, .iaload, .invokevirtual 43, .if_icmp .eq 376, .iconst 0, .ireturn, .aload_n 1, .aload_n 0, .iload_n 3, .iconst 1, .iadd, .iaload, .aload_n 0, .iload_n 3, .iconst 2, .iadd, .iaload, .invokevirtual 44, .aload_n 2, .aload_n 0, .iload_n 3, .iconst 1, .iadd, .iaload, .aload_n 0]
def ac173_5 : List Instr := [.iload_n 3, .iconst 2, .iadd, .iaload, .invokevirtual 47, .if_icmp .eq 343, .iconst 0, .ireturn, .aload_n 1, .aload_n 0, .iload_n 3, .iconst 1, .iadd, .iaload, .aload_n 0, .iload_n 3, .iconst 2, .iadd, .iaload, .invokevirtual 48, .aload_n 2, .aload_n 0, .iload_n 3, .iconst 1, .iadd, .iaload, .aload_n 0, .iload_n 3, .iconst 2, .iadd, .iaload, .invokevirtual 51, .if_icmp .eq 310, .iconst 0, .ireturn, .aload_n 1, .aload_n 0, .iload_n 3, .iconst 1, .iadd]
def ac173_6 : List Instr := [.iaload, .invokevirtual 52, .aload_n 2, .aload_n 0, .iload_n 3, .iconst 1, .iadd, .iaload, .invokevirtual 55, .if_icmp .eq 287, .iconst 0, .ireturn, .aload_n 1, .aload_n 0, .iload_n 3, .iconst 1, .iadd, .iaload, .aload_n 0, .iload_n 3, .iconst 2, .iadd, .iaload, .invokevirtual 56, .aload_n 2, .aload_n 0, .iload_n 3, .iconst 1, .iadd, .iaload, .aload_n 0, .iload_n 3, .iconst 2, .iadd, .iaload, .invokevirtual 59, .if_icmp .eq 254, .iconst 0, .ireturn, .aload_n 1]
def ac173_7 : List Instr := [.aload_n 0, .iload_n 3, .iconst 1, .iadd, .iaload, .aload_n 0, .iload_n 3, .iconst 2, .iadd, .iaload, .invokevirtual 60, .aload_n 2, .aload_n 0, .iload_n 3, .iconst 1, .iadd, .iaload, .aload_n 0, .iload_n 3, .iconst 2, .iadd, .iaload, .invokevirtual 63, .if_icmp .eq 221, .iconst 0, .ireturn, .aload_n 1, .invokevirtual 64, .aload_n 2, .invokevirtual 68, .if_icmp .eq 208, .iconst 0, .ireturn, .aload_n 1, .aload_n 0, .iload_n 3, .iconst 1, .iadd, .iaload, .invokevirtual 69]
def ac173_8 : List Instr := [.aload_n 2, .aload_n 0, .iload_n 3, .iconst 1, .iadd, .iaload, .invokevirtual 72, .if_icmp .eq 185, .iconst 0, .ireturn, .aload_n 1, .aload_n 0, .iload_n 3, .iconst 1, .iadd, .iaload, .invokevirtual 73, .aload_n 2, .aload_n 0, .iload_n 3, .iconst 1, .iadd, .iaload, .invokevirtual 76, .if_icmp .eq 162, .iconst 0, .ireturn, .aload_n 1, .invokevirtual 77, .aload_n 2, .invokevirtual 80, .if_icmp .eq 149, .iconst 0, .ireturn, .aload_n 1, .aload_n 0, .iload_n 3, .iconst 1, .iadd, .iaload]
def ac173_9 : List Instr := [.invokevirtual 81, .aload_n 2, .aload_n 0, .iload_n 3, .iconst 1, .iadd, .iaload, .invokevirtual 84, .if_icmp .eq 126, .iconst 0, .ireturn, .aload_n 1, .invokevirtual 85, .aload_n 2, .invokevirtual 88, .if_icmp .eq 113, .iconst 0, .ireturn, .aload_n 1, .aload_n 0, .iload_n 3, .iconst 1, .iadd, .iaload, .invokevirtual 89, .aload_n 2, .aload_n 0, .iload_n 3, .iconst 1, .iadd, .iaload, .invokevirtual 92, .if_icmp .eq 90, .iconst 0, .ireturn, .aload_n 1, .invokevirtual 93, .aload_n 2, .invokevirtual 96, .if_icmp .eq 77]
def ac173_10 : List Instr := [.iconst 0, .ireturn, .aload_n 1, .aload_n 0, .iload_n 3, .iconst 1, .iadd, .iaload, .invokevirtual 97, .aload_n 2, .aload_n 0, .iload_n 3, .iconst 1, .iadd, .iaload, .invokevirtual 100, .if_icmp .eq 54, .iconst 0, .ireturn, .aload_n 1, .invokevirtual 101, .aload_n 2, .invokevirtual 104, .if_icmp .eq 41, .iconst 0, .ireturn, .aload_n 1, .aload_n 0, .iload_n 3, .iconst 1, .iadd, .iaload, .invokevirtual 105, .aload_n 2, .aload_n 0, .iload_n 3, .iconst 1, .iadd, .iaload, .invokevirtual 108]
def ac173_11 : List Instr := [.if_icmp .eq 18, .iconst 0, .ireturn, .aload_n 1, .invokevirtual 109, .aload_n 2, .invokevirtual 112, .if_icmp .eq 5, .iconst 0, .ireturn, .iinc 3 4, .goto (-701), .iconst 1, .ireturn]
def ac173 : List Instr := ac173_0 ++ (ac173_1 ++ (ac173_2 ++ (ac173_3 ++ (ac173_4 ++ (ac173_5 ++ (ac173_6 ++ (ac173_7 ++ (ac173_8 ++ (ac173_9 ++ (ac173_10 ++ (ac173_11)))))))))))
def mCode (mi : Nat) : List AEnt := match mi with
  | 0 => pg0
  | 1 => pg1
  | 2 => pg2
  | 3 => pg3
  | 4 => pg4
  | 5 => pg5
  | 6 => pg6
  | 7 => pg7
  | 8 => pg8
  | 9 => pg9
  | 10 => pg10
  | 11 => pg11
  | 12 => pg12
  | 13 => pg13
  | 14 => pg14
  | 15 => pg15
  | 16 => pg16
  | 17 => pg17
  | 18 => pg18
  | 19 => pg19
  | 20 => pg20
  | 21 => pg21
  | 22 => pg22
  | 23 => pg23
  | 24 => pg24
  | 25 => pg25
  | 26 => pg26
  | 27 => pg27
  | 28 => pg28
  | 29 => pg29
  | 30 => pg30
  | 31 => pg31
  | 32 => pg32
  | 33 => pg33
  | 34 => pg34
  | 35 => pg35
  | 36 => pg36
  | 37 => pg37
  | 38 => pg38
  | 39 => pg39
  | 40 => pg40
  | 41 => pg41
  | 42 => pg42
  | 43 => pg43
  | 44 => pg44
  | 45 => pg45
  | 46 => pg46
  | 47 => pg47
  | 48 => pg48
  | 49 => pg49
  | 50 => pg50
  | 51 => pg51
  | 52 => pg52
  | 53 => pg53
  | 54 => pg54
  | 55 => pg55
  | 56 => pg56
  | 57 => pg57
  | 58 => pg58
  | 59 => pg59
  | 60 => pg60
  | 61 => pg61
  | 62 => pg62
  | 63 => pg63
  | 64 => pg64
  | 65 => pg65
  | 66 => pg66
  | 67 => pg67
  | 68 => pg68
  | 69 => pg69
  | 70 => pg70
  | 71 => pg71
  | 72 => pg72
  | 73 => pg73
  | 74 => pg74
  | 75 => pg75
  | 76 => pg76
  | 77 => pg77
  | 78 => pg78
  | 79 => pg79
  | 80 => pg80
  | 81 => pg81
  | 82 => pg82
  | 83 => pg83
  | 84 => pg84
  | 85 => pg85
  | 86 => pg86
  | 87 => pg87
  | 88 => pg88
  | 89 => pg89
  | 90 => pg90
  | 91 => pg91
  | 92 => pg92
  | 93 => pg93
  | 94 => pg94
  | 95 => pg95
  | 96 => pg96
  | 97 => pg97
  | 98 => pg98
  | 99 => pg99
  | 100 => pg100
  | 101 => pg101
  | 102 => pg102
  | 103 => pg103
  | 104 => pg104
  | 105 => pg105
  | 106 => pg106
  | 107 => pg107
  | 108 => pg108
  | 109 => pg109
  | 110 => pg110
  | 111 => pg111
  | 112 => pg112
  | 113 => pg113
  | 114 => pg114
  | 115 => pg115
  | 116 => pg116
  | 117 => pg117
  | 118 => pg118
  | 119 => pg119
  | 120 => pg120
  | 121 => pg121
  | 122 => pg122
  | 123 => pg123
  | 124 => pg124
  | 125 => pg125
  | 126 => pg126
  | 127 => pg127
  | 128 => pg128
  | 129 => pg129
  | 130 => pg130
  | 131 => pg131
  | 132 => pg132
  | 133 => pg133
  | 134 => pg134
  | 135 => pg135
  | 136 => pg136
  | 137 => pg137
  | 138 => pg138
  | 139 => pg139
  | 140 => pg140
  | 141 => pg141
  | 142 => pg142
  | 143 => pg143
  | 144 => pg144
  | 145 => pg145
  | 146 => pg146
  | 147 => pg147
  | 148 => pg148
  | 149 => pg149
  | 150 => pg150
  | 151 => pg151
  | 152 => pg152
  | 153 => pg153
  | 154 => pg154
  | 155 => pg155
  | 156 => pg156
  | 157 => pg157
  | 158 => pg158
  | 159 => pg159
  | 160 => pg160
  | 161 => pg161
  | 162 => pg162
  | 163 => pg163
  | 164 => pg164
  | 165 => pg165
  | 166 => pg166
  | 167 => pg167
  | 168 => pg168
  | 169 => pg169
  | 170 => pg170
  | 171 => pg171
  | 172 => pg172
  | 173 => pg173
  | _ => []
def mAct (mi : Nat) : List Instr := match mi with
  | 0 => ac0
  | 1 => ac1
  | 2 => ac2
  | 3 => ac3
  | 4 => ac4
  | 5 => ac5
  | 6 => ac6
  | 7 => ac7
  | 8 => ac8
  | 9 => ac9
  | 10 => ac10
  | 11 => ac11
  | 12 => ac12
  | 13 => ac13
  | 14 => ac14
  | 15 => ac15
  | 16 => ac16
  | 17 => ac17
  | 18 => ac18
  | 19 => ac19
  | 20 => ac20
  | 21 => ac21
  | 22 => ac22
  | 23 => ac23
  | 24 => ac24
  | 25 => ac25
  | 26 => ac26
  | 27 => ac27
  | 28 => ac28
  | 29 => ac29
  | 30 => ac30
  | 31 => ac31
  | 32 => ac32
  | 33 => ac33
  | 34 => ac34
  | 35 => ac35
  | 36 => ac36
  | 37 => ac37
  | 38 => ac38
  | 39 => ac39
  | 40 => ac40
  | 41 => ac41
  | 42 => ac42
  | 43 => ac43
  | 44 => ac44
  | 45 => ac45
  | 46 => ac46
  | 47 => ac47
  | 48 => ac48
  | 49 => ac49
  | 50 => ac50
  | 51 => ac51
  | 52 => ac52
  | 53 => ac53
  | 54 => ac54
  | 55 => ac55
  | 56 => ac56
  | 57 => ac57
  | 58 => ac58
  | 59 => ac59
  | 60 => ac60
  | 61 => ac61
  | 62 => ac62
  | 63 => ac63
  | 64 => ac64
  | 65 => ac65
  | 66 => ac66
  | 67 => ac67
  | 68 => ac68
  | 69 => ac69
  | 70 => ac70
  | 71 => ac71
  | 72 => ac72
  | 73 => ac73
  | 74 => ac74
  | 75 => ac75
  | 76 => ac76
  | 77 => ac77
  | 78 => ac78
  | 79 => ac79
  | 80 => ac80
  | 81 => ac81
  | 82 => ac82
  | 83 => ac83
  | 84 => ac84
  | 85 => ac85
  | 86 => ac86
  | 87 => ac87
  | 88 => ac88
  | 89 => ac89
  | 90 => ac90
  | 91 => ac91
  | 92 => ac92
  | 93 => ac93
  | 94 => ac94
  | 95 => ac95
  | 96 => ac96
  | 97 => ac97
  | 98 => ac98
  | 99 => ac99
  | 100 => ac100
  | 101 => ac101
  | 102 => ac102
  | 103 => ac103
  | 104 => ac104
  | 105 => ac105
  | 106 => ac106
  | 107 => ac107
  | 108 => ac108
  | 109 => ac109
  | 110 => ac110
  | 111 => ac111
  | 112 => ac112
  | 113 => ac113
  | 114 => ac114
  | 115 => ac115
  | 116 => ac116
  | 117 => ac117
  | 118 => ac118
  | 119 => ac119
  | 120 => ac120
  | 121 => ac121
  | 122 => ac122
  | 123 => ac123
  | 124 => ac124
  | 125 => ac125
  | 126 => ac126
  | 127 => ac127
  | 128 => ac128
  | 129 => ac129
  | 130 => ac130
  | 131 => ac131
  | 132 => ac132
  | 133 => ac133
  | 134 => ac134
  | 135 => ac135
  | 136 => ac136
  | 137 => ac137
  | 138 => ac138
  | 139 => ac139
  | 140 => ac140
  | 141 => ac141
  | 142 => ac142
  | 143 => ac143
  | 144 => ac144
  | 145 => ac145
  | 146 => ac146
  | 147 => ac147
  | 148 => ac148
  | 149 => ac149
  | 150 => ac150
  | 151 => ac151
  | 152 => ac152
  | 153 => ac153
  | 154 => ac154
  | 155 => ac155
  | 156 => ac156
  | 157 => ac157
  | 158 => ac158
  | 159 => ac159
  | 160 => ac160
  | 161 => ac161
  | 162 => ac162
  | 163 => ac163
  | 164 => ac164
  | 165 => ac165
  | 166 => ac166
  | 167 => ac167
  | 168 => ac168
  | 169 => ac169
  | 170 => ac170
  | 171 => ac171
  | 172 => ac172
  | 173 => ac173
  | _ => []
def mPar (mi : Nat) : Nat := match mi with
  | 0 => 1
  | 1 => 2
  | 2 => 3
  | 3 => 1
  | 4 => 2
  | 5 => 2
  | 6 => 1
  | 7 => 4
  | 8 => 2
  | 9 => 1
  | 10 => 1
  | 11 => 3
  | 12 => 1
  | 13 => 1
  | 14 => 1
  | 15 => 2
  | 16 => 2
  | 17 => 2
  | 18 => 1
  | 19 => 2
  | 20 => 2
  | 21 => 2
  | 22 => 2
  | 23 => 4
  | 24 => 3
  | 25 => 2
  | 26 => 2
  | 27 => 3
  | 28 => 2
  | 29 => 1
  | 30 => 1
  | 31 => 2
  | 32 => 1
  | 33 => 2
  | 34 => 2
  | 35 => 1
  | 36 => 2
  | 37 => 1
  | 38 => 2
  | 39 => 3
  | 40 => 3
  | 41 => 2
  | 42 => 1
  | 43 => 2
  | 44 => 2
  | 45 => 1
  | 46 => 1
  | 47 => 1
  | 48 => 1
  | 49 => 1
  | 50 => 1
  | 51 => 2
  | 52 => 2
  | 53 => 1
  | 54 => 2
  | 55 => 2
  | 56 => 1
  | 57 => 1
  | 58 => 2
  | 59 => 4
  | 60 => 3
  | 61 => 2
  | 62 => 2
  | 63 => 2
  | 64 => 3
  | 65 => 3
  | 66 => 3
  | 67 => 2
  | 68 => 3
  | 69 => 3
  | 70 => 1
  | 71 => 2
  | 72 => 2
  | 73 => 1
  | 74 => 2
  | 75 => 1
  | 76 => 2
  | 77 => 1
  | 78 => 2
  | 79 => 1
  | 80 => 2
  | 81 => 1
  | 82 => 1
  | 83 => 2
  | 84 => 1
  | 85 => 2
  | 86 => 4
  | 87 => 2
  | 88 => 2
  | 89 => 1
  | 90 => 1
  | 91 => 1
  | 92 => 3
  | 93 => 4
  | 94 => 1
  | 95 => 2
  | 96 => 2
  | 97 => 3
  | 98 => 4
  | 99 => 4
  | 100 => 3
  | 101 => 4
  | 102 => 3
  | 103 => 2
  | 104 => 2
  | 105 => 2
  | 106 => 3
  | 107 => 2
  | 108 => 1
  | 109 => 2
  | 110 => 1
  | 111 => 2
  | 112 => 4
  | 113 => 2
  | 114 => 2
  | 115 => 2
  | 116 => 2
  | 117 => 2
  | 118 => 3
  | 119 => 2
  | 120 => 1
  | 121 => 2
  | 122 => 2
  | 123 => 4
  | 124 => 3
  | 125 => 2
  | 126 => 2
  | 127 => 2
  | 128 => 2
  | 129 => 4
  | 130 => 3
  | 131 => 2
  | 132 => 2
  | 133 => 2
  | 134 => 1
  | 135 => 3
  | 136 => 1
  | 137 => 3
  | 138 => 2
  | 139 => 2
  | 140 => 3
  | 141 => 2
  | 142 => 3
  | 143 => 2
  | 144 => 3
  | 145 => 1
  | 146 => 2
  | 147 => 2
  | 148 => 1
  | 149 => 2
  | 150 => 1
  | 151 => 2
  | 152 => 1
  | 153 => 1
  | 154 => 3
  | 155 => 2
  | 156 => 2
  | 157 => 1
  | 158 => 1
  | 159 => 2
  | 160 => 2
  | 161 => 1
  | 162 => 1
  | 163 => 1
  | 164 => 1
  | 165 => 2
  | 166 => 1
  | 167 => 1
  | 168 => 1
  | 169 => 1
  | 170 => 1
  | 171 => 2
  | 172 => 2
  | 173 => 1
  | _ => 0
def mCls (mi : Nat) : Nat := match mi with
  | 0 => 0
  | 1 => 0
  | 2 => 0
  | 3 => 0
  | 4 => 0
  | 5 => 0
  | 6 => 1
  | 7 => 1
  | 8 => 1
  | 9 => 1
  | 10 => 1
  | 11 => 1
  | 12 => 1
  | 13 => 1
  | 14 => 2
  | 15 => 2
  | 16 => 2
  | 17 => 2
  | 18 => 3
  | 19 => 3
  | 20 => 3
  | 21 => 3
  | 22 => 3
  | 23 => 3
  | 24 => 3
  | 25 => 3
  | 26 => 3
  | 27 => 3
  | 28 => 3
  | 29 => 3
  | 30 => 3
  | 31 => 3
  | 32 => 3
  | 33 => 3
  | 34 => 3
  | 35 => 3
  | 36 => 3
  | 37 => 3
  | 38 => 3
  | 39 => 3
  | 40 => 3
  | 41 => 3
  | 42 => 3
  | 43 => 3
  | 44 => 3
  | 45 => 3
  | 46 => 3
  | 47 => 3
  | 48 => 3
  | 49 => 3
  | 50 => 4
  | 51 => 4
  | 52 => 4
  | 53 => 4
  | 54 => 4
  | 55 => 4
  | 56 => 4
  | 57 => 5
  | 58 => 5
  | 59 => 5
  | 60 => 5
  | 61 => 5
  | 62 => 5
  | 63 => 5
  | 64 => 5
  | 65 => 5
  | 66 => 5
  | 67 => 5
  | 68 => 5
  | 69 => 5
  | 70 => 5
  | 71 => 5
  | 72 => 5
  | 73 => 5
  | 74 => 5
  | 75 => 5
  | 76 => 5
  | 77 => 5
  | 78 => 5
  | 79 => 5
  | 80 => 5
  | 81 => 5
  | 82 => 5
  | 83 => 5
  | 84 => 5
  | 85 => 5
  | 86 => 5
  | 87 => 5
  | 88 => 5
  | 89 => 5
  | 90 => 5
  | 91 => 6
  | 92 => 6
  | 93 => 6
  | 94 => 6
  | 95 => 6
  | 96 => 6
  | 97 => 6
  | 98 => 6
  | 99 => 6
  | 100 => 6
  | 101 => 6
  | 102 => 6
  | 103 => 6
  | 104 => 6
  | 105 => 6
  | 106 => 6
  | 107 => 6
  | 108 => 6
  | 109 => 6
  | 110 => 6
  | 111 => 6
  | 112 => 6
  | 113 => 6
  | 114 => 6
  | 115 => 6
  | 116 => 6
  | 117 => 6
  | 118 => 6
  | 119 => 6
  | 120 => 6
  | 121 => 6
  | 122 => 6
  | 123 => 6
  | 124 => 6
  | 125 => 6
  | 126 => 6
  | 127 => 6
  | 128 => 6
  | 129 => 6
  | 130 => 6
  | 131 => 6
  | 132 => 6
  | 133 => 6
  | 134 => 6
  | 135 => 6
  | 136 => 6
  | 137 => 6
  | 138 => 6
  | 139 => 6
  | 140 => 6
  | 141 => 6
  | 142 => 6
  | 143 => 6
  | 144 => 6
  | 145 => 6
  | 146 => 6
  | 147 => 6
  | 148 => 6
  | 149 => 6
  | 150 => 6
  | 151 => 6
  | 152 => 6
  | 153 => 6
  | 154 => 6
  | 155 => 6
  | 156 => 6
  | 157 => 6
  | 158 => 6
  | 159 => 6
  | 160 => 6
  | 161 => 6
  | 162 => 6
  | 163 => 6
  | 164 => 6
  | 165 => 6
  | 166 => 6
  | 167 => 10
  | 168 => 10
  | 169 => 8
  | 170 => 8
  | 171 => 9
  | 172 => 9
  | 173 => 7
  | _ => 0
def mMax (mi : Nat) : Nat := match mi with
  | 0 => 1
  | 1 => 3
  | 2 => 3
  | 3 => 2
  | 4 => 2
  | 5 => 2
  | 6 => 1
  | 7 => 4
  | 8 => 2
  | 9 => 1
  | 10 => 1
  | 11 => 3
  | 12 => 1
  | 13 => 2
  | 14 => 1
  | 15 => 2
  | 16 => 2
  | 17 => 2
  | 18 => 2
  | 19 => 3
  | 20 => 2
  | 21 => 2
  | 22 => 2
  | 23 => 4
  | 24 => 6
  | 25 => 2
  | 26 => 2
  | 27 => 4
  | 28 => 4
  | 29 => 5
  | 30 => 3
  | 31 => 3
  | 32 => 5
  | 33 => 2
  | 34 => 2
  | 35 => 1
  | 36 => 2
  | 37 => 6
  | 38 => 4
  | 39 => 6
  | 40 => 6
  | 41 => 2
  | 42 => 4
  | 43 => 4
  | 44 => 4
  | 45 => 4
  | 46 => 3
  | 47 => 3
  | 48 => 3
  | 49 => 3
  | 50 => 1
  | 51 => 2
  | 52 => 4
  | 53 => 1
  | 54 => 2
  | 55 => 4
  | 56 => 1
  | 57 => 2
  | 58 => 2
  | 59 => 4
  | 60 => 3
  | 61 => 2
  | 62 => 2
  | 63 => 2
  | 64 => 3
  | 65 => 4
  | 66 => 4
  | 67 => 2
  | 68 => 3
  | 69 => 4
  | 70 => 1
  | 71 => 3
  | 72 => 4
  | 73 => 4
  | 74 => 5
  | 75 => 1
  | 76 => 2
  | 77 => 2
  | 78 => 2
  | 79 => 2
  | 80 => 2
  | 81 => 1
  | 82 => 1
  | 83 => 3
  | 84 => 3
  | 85 => 5
  | 86 => 4
  | 87 => 3
  | 88 => 2
  | 89 => 1
  | 90 => 4
  | 91 => 1
  | 92 => 3
  | 93 => 5
  | 94 => 2
  | 95 => 2
  | 96 => 2
  | 97 => 3
  | 98 => 4
  | 99 => 4
  | 100 => 3
  | 101 => 4
  | 102 => 3
  | 103 => 2
  | 104 => 2
  | 105 => 2
  | 106 => 7
  | 107 => 2
  | 108 => 3
  | 109 => 2
  | 110 => 4
  | 111 => 4
  | 112 => 6
  | 113 => 3
  | 114 => 2
  | 115 => 2
  | 116 => 3
  | 117 => 3
  | 118 => 5
  | 119 => 3
  | 120 => 5
  | 121 => 4
  | 122 => 2
  | 123 => 5
  | 124 => 4
  | 125 => 2
  | 126 => 2
  | 127 => 2
  | 128 => 3
  | 129 => 5
  | 130 => 4
  | 131 => 3
  | 132 => 3
  | 133 => 3
  | 134 => 1
  | 135 => 4
  | 136 => 1
  | 137 => 3
  | 138 => 4
  | 139 => 7
  | 140 => 3
  | 141 => 2
  | 142 => 3
  | 143 => 3
  | 144 => 4
  | 145 => 1
  | 146 => 2
  | 147 => 4
  | 148 => 4
  | 149 => 3
  | 150 => 3
  | 151 => 4
  | 152 => 3
  | 153 => 3
  | 154 => 6
  | 155 => 2
  | 156 => 2
  | 157 => 2
  | 158 => 1
  | 159 => 2
  | 160 => 4
  | 161 => 2
  | 162 => 1
  | 163 => 1
  | 164 => 4
  | 165 => 3
  | 166 => 2
  | 167 => 1
  | 168 => 1
  | 169 => 2
  | 170 => 1
  | 171 => 2
  | 172 => 2
  | 173 => 4
  | _ => 0
def mDep (mi : Nat) : Nat := match mi with
  | 0 => 1
  | 1 => 0
  | 2 => 1
  | 3 => 0
  | 4 => 0
  | 5 => 0
  | 6 => 1
  | 7 => 0
  | 8 => 0
  | 9 => 0
  | 10 => 0
  | 11 => 1
  | 12 => 1
  | 13 => 0
  | 14 => 1
  | 15 => 0
  | 16 => 0
  | 17 => 1
  | 18 => 2
  | 19 => 1
  | 20 => 0
  | 21 => 0
  | 22 => 1
  | 23 => 1
  | 24 => 4
  | 25 => 1
  | 26 => 1
  | 27 => 0
  | 28 => 4
  | 29 => 3
  | 30 => 2
  | 31 => 2
  | 32 => 2
  | 33 => 0
  | 34 => 0
  | 35 => 1
  | 36 => 3
  | 37 => 2
  | 38 => 0
  | 39 => 1
  | 40 => 0
  | 41 => 2
  | 42 => 2
  | 43 => 1
  | 44 => 1
  | 45 => 2
  | 46 => 2
  | 47 => 0
  | 48 => 0
  | 49 => 1
  | 50 => 1
  | 51 => 0
  | 52 => 2
  | 53 => 0
  | 54 => 0
  | 55 => 1
  | 56 => 0
  | 57 => 3
  | 58 => 3
  | 59 => 3
  | 60 => 5
  | 61 => 3
  | 62 => 3
  | 63 => 5
  | 64 => 3
  | 65 => 3
  | 66 => 2
  | 67 => 2
  | 68 => 1
  | 69 => 4
  | 70 => 3
  | 71 => 1
  | 72 => 4
  | 73 => 4
  | 74 => 4
  | 75 => 1
  | 76 => 3
  | 77 => 0
  | 78 => 1
  | 79 => 0
  | 80 => 7
  | 81 => 7
  | 82 => 2
  | 83 => 1
  | 84 => 0
  | 85 => 6
  | 86 => 0
  | 87 => 5
  | 88 => 0
  | 89 => 1
  | 90 => 0
  | 91 => 1
  | 92 => 0
  | 93 => 0
  | 94 => 1
  | 95 => 1
  | 96 => 1
  | 97 => 0
  | 98 => 0
  | 99 => 0
  | 100 => 0
  | 101 => 0
  | 102 => 0
  | 103 => 1
  | 104 => 1
  | 105 => 2
  | 106 => 2
  | 107 => 3
  | 108 => 1
  | 109 => 4
  | 110 => 5
  | 111 => 1
  | 112 => 1
  | 113 => 4
  | 114 => 1
  | 115 => 0
  | 116 => 1
  | 117 => 1
  | 118 => 1
  | 119 => 0
  | 120 => 6
  | 121 => 7
  | 122 => 1
  | 123 => 2
  | 124 => 5
  | 125 => 2
  | 126 => 1
  | 127 => 1
  | 128 => 2
  | 129 => 3
  | 130 => 6
  | 131 => 3
  | 132 => 2
  | 133 => 8
  | 134 => 0
  | 135 => 2
  | 136 => 1
  | 137 => 4
  | 138 => 2
  | 139 => 2
  | 140 => 3
  | 141 => 3
  | 142 => 1
  | 143 => 0
  | 144 => 5
  | 145 => 6
  | 146 => 2
  | 147 => 7
  | 148 => 7
  | 149 => 8
  | 150 => 2
  | 151 => 3
  | 152 => 4
  | 153 => 3
  | 154 => 1
  | 155 => 5
  | 156 => 1
  | 157 => 0
  | 158 => 0
  | 159 => 0
  | 160 => 1
  | 161 => 2
  | 162 => 6
  | 163 => 8
  | 164 => 9
  | 165 => 10
  | 166 => 10
  | 167 => 0
  | 168 => 1
  | 169 => 0
  | 170 => 0
  | 171 => 0
  | 172 => 0
  | 173 => 11
  | _ => 0
def mRk (mi : Nat) : Nat := match mi with
  | 0 => 0
  | 1 => 0
  | 2 => 0
  | 3 => 0
  | 4 => 1
  | 5 => 1
  | 6 => 0
  | 7 => 0
  | 8 => 0
  | 9 => 0
  | 10 => 0
  | 11 => 0
  | 12 => 0
  | 13 => 1
  | 14 => 0
  | 15 => 0
  | 16 => 0
  | 17 => 2
  | 18 => 0
  | 19 => 0
  | 20 => 2
  | 21 => 2
  | 22 => 1
  | 23 => 1
  | 24 => 1
  | 25 => 1
  | 26 => 1
  | 27 => 1
  | 28 => 1
  | 29 => 1
  | 30 => 0
  | 31 => 0
  | 32 => 1
  | 33 => 0
  | 34 => 0
  | 35 => 1
  | 36 => 1
  | 37 => 1
  | 38 => 1
  | 39 => 1
  | 40 => 1
  | 41 => 1
  | 42 => 1
  | 43 => 1
  | 44 => 1
  | 45 => 1
  | 46 => 1
  | 47 => 1
  | 48 => 1
  | 49 => 1
  | 50 => 0
  | 51 => 2
  | 52 => 2
  | 53 => 1
  | 54 => 2
  | 55 => 2
  | 56 => 2
  | 57 => 0
  | 58 => 1
  | 59 => 1
  | 60 => 1
  | 61 => 1
  | 62 => 1
  | 63 => 1
  | 64 => 1
  | 65 => 1
  | 66 => 1
  | 67 => 1
  | 68 => 1
  | 69 => 1
  | 70 => 1
  | 71 => 1
  | 72 => 1
  | 73 => 1
  | 74 => 1
  | 75 => 1
  | 76 => 1
  | 77 => 1
  | 78 => 1
  | 79 => 1
  | 80 => 1
  | 81 => 1
  | 82 => 3
  | 83 => 1
  | 84 => 0
  | 85 => 1
  | 86 => 0
  | 87 => 1
  | 88 => 2
  | 89 => 1
  | 90 => 1
  | 91 => 0
  | 92 => 2
  | 93 => 0
  | 94 => 0
  | 95 => 2
  | 96 => 2
  | 97 => 1
  | 98 => 0
  | 99 => 0
  | 100 => 1
  | 101 => 0
  | 102 => 0
  | 103 => 2
  | 104 => 2
  | 105 => 1
  | 106 => 1
  | 107 => 1
  | 108 => 1
  | 109 => 1
  | 110 => 1
  | 111 => 1
  | 112 => 1
  | 113 => 1
  | 114 => 1
  | 115 => 1
  | 116 => 0
  | 117 => 0
  | 118 => 1
  | 119 => 0
  | 120 => 1
  | 121 => 1
  | 122 => 1
  | 123 => 1
  | 124 => 1
  | 125 => 1
  | 126 => 1
  | 127 => 1
  | 128 => 1
  | 129 => 1
  | 130 => 1
  | 131 => 1
  | 132 => 1
  | 133 => 1
  | 134 => 1
  | 135 => 1
  | 136 => 1
  | 137 => 1
  | 138 => 1
  | 139 => 1
  | 140 => 1
  | 141 => 1
  | 142 => 1
  | 143 => 1
  | 144 => 1
  | 145 => 1
  | 146 => 1
  | 147 => 1
  | 148 => 1
  | 149 => 1
  | 150 => 1
  | 151 => 1
  | 152 => 1
  | 153 => 1
  | 154 => 1
  | 155 => 1
  | 156 => 1
  | 157 => 1
  | 158 => 1
  | 159 => 0
  | 160 => 0
  | 161 => 0
  | 162 => 1
  | 163 => 1
  | 164 => 1
  | 165 => 1
  | 166 => 1
  | 167 => 2
  | 168 => 1
  | 169 => 1
  | 170 => 1
  | 171 => 1
  | 172 => 1
  | 173 => 2
  | _ => 0
def mNam (mi : Nat) : MethodName := match mi with
  | 0 => ⟨"CoatedBridges$Book", "<init>", "()V"⟩
  | 1 => ⟨"CoatedBridges$Book", "copyFrom", "(LCoatedBridges$Book;)V"⟩
  | 2 => ⟨"CoatedBridges$Book", "note", "(II)V"⟩
  | 3 => ⟨"CoatedBridges$Book", "dropFirst", "()V"⟩
  | 4 => ⟨"CoatedBridges$Book", "dayAgo", "(I)I"⟩
  | 5 => ⟨"CoatedBridges$Book", "complaintsAgo", "(I)I"⟩
  | 6 => ⟨"CoatedBridges$Bridge", "<init>", "()V"⟩
  | 7 => ⟨"CoatedBridges$Bridge", "begin", "(III)V"⟩
  | 8 => ⟨"CoatedBridges$Bridge", "copyFrom", "(LCoatedBridges$Bridge;)V"⟩
  | 9 => ⟨"CoatedBridges$Bridge", "takeCrew", "()V"⟩
  | 10 => ⟨"CoatedBridges$Bridge", "loseCrew", "()V"⟩
  | 11 => ⟨"CoatedBridges$Bridge", "paint", "(II)V"⟩
  | 12 => ⟨"CoatedBridges$Bridge", "wearOff", "()V"⟩
  | 13 => ⟨"CoatedBridges$Bridge", "daysUntilRusted", "()I"⟩
  | 14 => ⟨"CoatedBridges$Island", "<init>", "()V"⟩
  | 15 => ⟨"CoatedBridges$Island", "begin", "(I)V"⟩
  | 16 => ⟨"CoatedBridges$Island", "copyFrom", "(LCoatedBridges$Island;)V"⟩
  | 17 => ⟨"CoatedBridges$Island", "waitAlone", "(I)Z"⟩
  | 18 => ⟨"CoatedBridges$State", "<init>", "()V"⟩
  | 19 => ⟨"CoatedBridges$State", "copyFrom", "(LCoatedBridges$State;)V"⟩
  | 20 => ⟨"CoatedBridges$State", "hasIsland", "(I)Z"⟩
  | 21 => ⟨"CoatedBridges$State", "hasBridge", "(I)Z"⟩
  | 22 => ⟨"CoatedBridges$State", "addIsland", "(I)I"⟩
  | 23 => ⟨"CoatedBridges$State", "addBridge", "(III)I"⟩
  | 24 => ⟨"CoatedBridges$State", "sendCrew", "(II)I"⟩
  | 25 => ⟨"CoatedBridges$State", "callBack", "(I)I"⟩
  | 26 => ⟨"CoatedBridges$State", "payIn", "(I)I"⟩
  | 27 => ⟨"CoatedBridges$State", "changeSetting", "(II)I"⟩
  | 28 => ⟨"CoatedBridges$State", "endDays", "(I)I"⟩
  | 29 => ⟨"CoatedBridges$State", "endDay", "()I"⟩
  | 30 => ⟨"CoatedBridges$State", "paintBridges", "()V"⟩
  | 31 => ⟨"CoatedBridges$State", "wearBridges", "(I)V"⟩
  | 32 => ⟨"CoatedBridges$State", "letIslandsWait", "()I"⟩
  | 33 => ⟨"CoatedBridges$State", "payFerry", "(LCoatedBridges$Island;)V"⟩
  | 34 => ⟨"CoatedBridges$State", "receive", "(I)V"⟩
  | 35 => ⟨"CoatedBridges$State", "freeCrews", "()I"⟩
  | 36 => ⟨"CoatedBridges$State", "reasonAgainst", "(I)I"⟩
  | 37 => ⟨"CoatedBridges$State", "bridgeToPaintNext", "()I"⟩
  | 38 => ⟨"CoatedBridges$State", "bridgesThatAre", "(I)I"⟩
  | 39 => ⟨"CoatedBridges$State", "reachFrom", "(II)I"⟩
  | 40 => ⟨"CoatedBridges$State", "oneBridgeOn", "(II)I"⟩
  | 41 => ⟨"CoatedBridges$State", "lostWithout", "(I)I"⟩
  | 42 => ⟨"CoatedBridges$State", "neededBridges", "()I"⟩
  | 43 => ⟨"CoatedBridges$State", "bridgesTo", "(I)I"⟩
  | 44 => ⟨"CoatedBridges$State", "openBridgesAt", "(I)I"⟩
  | 45 => ⟨"CoatedBridges$State", "groups", "()I"⟩
  | 46 => ⟨"CoatedBridges$State", "lowestOnes", "()I"⟩
  | 47 => ⟨"CoatedBridges$State", "coatsTogether", "()I"⟩
  | 48 => ⟨"CoatedBridges$State", "complaintsSoFar", "()I"⟩
  | 49 => ⟨"CoatedBridges$State", "longestWaitSoFar", "()I"⟩
  | 50 => ⟨"CoatedBridges$Text", "<init>", "()V"⟩
  | 51 => ⟨"CoatedBridges$Text", "append", "(C)Z"⟩
  | 52 => ⟨"CoatedBridges$Text", "readOrder", "(I)Z"⟩
  | 53 => ⟨"CoatedBridges$Text", "numbersOf", "(C)I"⟩
  | 54 => ⟨"CoatedBridges$Text", "take", "(C)Z"⟩
  | 55 => ⟨"CoatedBridges$Text", "readNumber", "(I)Z"⟩
  | 56 => ⟨"CoatedBridges$Text", "atDigit", "()Z"⟩
  | 57 => ⟨"CoatedBridges", "<init>", "()V"⟩
  | 58 => ⟨"CoatedBridges", "island", "(I)I"⟩
  | 59 => ⟨"CoatedBridges", "bridge", "(III)I"⟩
  | 60 => ⟨"CoatedBridges", "send", "(II)I"⟩
  | 61 => ⟨"CoatedBridges", "recall", "(I)I"⟩
  | 62 => ⟨"CoatedBridges", "pay", "(I)I"⟩
  | 63 => ⟨"CoatedBridges", "days", "(I)I"⟩
  | 64 => ⟨"CoatedBridges", "set", "(II)I"⟩
  | 65 => ⟨"CoatedBridges", "bridgeOf", "(II)I"⟩
  | 66 => ⟨"CoatedBridges", "islandOf", "(II)I"⟩
  | 67 => ⟨"CoatedBridges", "reach", "(I)I"⟩
  | 68 => ⟨"CoatedBridges", "book", "(II)I"⟩
  | 69 => ⟨"CoatedBridges", "why", "(II)I"⟩
  | 70 => ⟨"CoatedBridges", "best", "()I"⟩
  | 71 => ⟨"CoatedBridges", "rustsIn", "(I)I"⟩
  | 72 => ⟨"CoatedBridges", "paintedIn", "(I)I"⟩
  | 73 => ⟨"CoatedBridges", "aloneIn", "()I"⟩
  | 74 => ⟨"CoatedBridges", "ifDays", "(I)I"⟩
  | 75 => ⟨"CoatedBridges", "mean", "()I"⟩
  | 76 => ⟨"CoatedBridges", "count", "(I)I"⟩
  | 77 => ⟨"CoatedBridges", "undo", "()I"⟩
  | 78 => ⟨"CoatedBridges", "type", "(I)I"⟩
  | 79 => ⟨"CoatedBridges", "clearText", "()I"⟩
  | 80 => ⟨"CoatedBridges", "fault", "(I)I"⟩
  | 81 => ⟨"CoatedBridges", "play", "()I"⟩
  | 82 => ⟨"CoatedBridges", "startTrial", "()LCoatedBridges$State;"⟩
  | 83 => ⟨"CoatedBridges", "settle", "(I)I"⟩
  | 84 => ⟨"CoatedBridges", "dropOldest", "()V"⟩
  | 85 => ⟨"CoatedBridges", "obeyText", "(LCoatedBridges$State;)I"⟩
  | 86 => ⟨"CoatedBridges", "noteFault", "(III)V"⟩
  | 87 => ⟨"CoatedBridges", "obeyOrder", "(LCoatedBridges$State;)I"⟩
  | 88 => ⟨"CoatedBridges", "holds", "(II)Z"⟩
  | 89 => ⟨"CoatedBridges", "lowestIn", "(I)I"⟩
  | 90 => ⟨"CoatedBridges", "bitsOf", "(F)I"⟩
  | 91 => ⟨"CoatedBridgesModel", "<init>", "()V"⟩
  | 92 => ⟨"CoatedBridgesModel", "in", "(III)Z"⟩
  | 93 => ⟨"CoatedBridgesModel", "copies", "([II[II)V"⟩
  | 94 => ⟨"CoatedBridgesModel", "records", "()V"⟩
  | 95 => ⟨"CoatedBridgesModel", "isIsland", "(I)Z"⟩
  | 96 => ⟨"CoatedBridgesModel", "isBridge", "(I)Z"⟩
  | 97 => ⟨"CoatedBridgesModel", "of", "(II)I"⟩
  | 98 => ⟨"CoatedBridgesModel", "lays", "(III)V"⟩
  | 99 => ⟨"CoatedBridgesModel", "adds", "(III)V"⟩
  | 100 => ⟨"CoatedBridgesModel", "ofIsland", "(II)I"⟩
  | 101 => ⟨"CoatedBridgesModel", "laysIsland", "(III)V"⟩
  | 102 => ⟨"CoatedBridgesModel", "addsIsland", "(II)V"⟩
  | 103 => ⟨"CoatedBridgesModel", "isPainted", "(I)Z"⟩
  | 104 => ⟨"CoatedBridgesModel", "isOpen", "(I)Z"⟩
  | 105 => ⟨"CoatedBridgesModel", "stateOf", "(I)I"⟩
  | 106 => ⟨"CoatedBridgesModel", "reached", "(II)I"⟩
  | 107 => ⟨"CoatedBridgesModel", "cutOff", "(I)I"⟩
  | 108 => ⟨"CoatedBridgesModel", "painted", "()I"⟩
  | 109 => ⟨"CoatedBridgesModel", "reasonOf", "(I)I"⟩
  | 110 => ⟨"CoatedBridgesModel", "bestOne", "()I"⟩
  | 111 => ⟨"CoatedBridgesModel", "goIsland", "(I)I"⟩
  | 112 => ⟨"CoatedBridgesModel", "goBridge", "(III)I"⟩
  | 113 => ⟨"CoatedBridgesModel", "goSend", "(I)I"⟩
  | 114 => ⟨"CoatedBridgesModel", "goRecall", "(I)I"⟩
  | 115 => ⟨"CoatedBridgesModel", "goPay", "(I)I"⟩
  | 116 => ⟨"CoatedBridgesModel", "paints", "(I)V"⟩
  | 117 => ⟨"CoatedBridgesModel", "wears", "(I)V"⟩
  | 118 => ⟨"CoatedBridgesModel", "waits", "(IZ)I"⟩
  | 119 => ⟨"CoatedBridgesModel", "books", "(I)V"⟩
  | 120 => ⟨"CoatedBridgesModel", "endsDay", "()I"⟩
  | 121 => ⟨"CoatedBridgesModel", "endsDays", "(I)I"⟩
  | 122 => ⟨"CoatedBridgesModel", "errorIsland", "(I)I"⟩
  | 123 => ⟨"CoatedBridgesModel", "errorBridge", "(III)I"⟩
  | 124 => ⟨"CoatedBridgesModel", "errorSend", "(II)I"⟩
  | 125 => ⟨"CoatedBridgesModel", "errorRecall", "(I)I"⟩
  | 126 => ⟨"CoatedBridgesModel", "errorPay", "(I)I"⟩
  | 127 => ⟨"CoatedBridgesModel", "errorDays", "(I)I"⟩
  | 128 => ⟨"CoatedBridgesModel", "island", "(I)I"⟩
  | 129 => ⟨"CoatedBridgesModel", "bridge", "(III)I"⟩
  | 130 => ⟨"CoatedBridgesModel", "send", "(II)I"⟩
  | 131 => ⟨"CoatedBridgesModel", "recall", "(I)I"⟩
  | 132 => ⟨"CoatedBridgesModel", "pay", "(I)I"⟩
  | 133 => ⟨"CoatedBridgesModel", "days", "(I)I"⟩
  | 134 => ⟨"CoatedBridgesModel", "mostOf", "(I)I"⟩
  | 135 => ⟨"CoatedBridgesModel", "set", "(II)I"⟩
  | 136 => ⟨"CoatedBridgesModel", "undo", "()I"⟩
  | 137 => ⟨"CoatedBridgesModel", "bridgeOf", "(II)I"⟩
  | 138 => ⟨"CoatedBridgesModel", "openAt", "(I)I"⟩
  | 139 => ⟨"CoatedBridgesModel", "fewestTo", "(I)I"⟩
  | 140 => ⟨"CoatedBridgesModel", "islandOf", "(II)I"⟩
  | 141 => ⟨"CoatedBridgesModel", "reach", "(I)I"⟩
  | 142 => ⟨"CoatedBridgesModel", "book", "(II)I"⟩
  | 143 => ⟨"CoatedBridgesModel", "lowest", "(I)I"⟩
  | 144 => ⟨"CoatedBridgesModel", "why", "(II)I"⟩
  | 145 => ⟨"CoatedBridgesModel", "best", "()I"⟩
  | 146 => ⟨"CoatedBridgesModel", "rustsIn", "(I)I"⟩
  | 147 => ⟨"CoatedBridgesModel", "paintedIn", "(I)I"⟩
  | 148 => ⟨"CoatedBridgesModel", "aloneIn", "()I"⟩
  | 149 => ⟨"CoatedBridgesModel", "ifDays", "(I)I"⟩
  | 150 => ⟨"CoatedBridgesModel", "mean", "()I"⟩
  | 151 => ⟨"CoatedBridgesModel", "setOf", "(I)I"⟩
  | 152 => ⟨"CoatedBridgesModel", "neededOnes", "()I"⟩
  | 153 => ⟨"CoatedBridgesModel", "groups", "()I"⟩
  | 154 => ⟨"CoatedBridgesModel", "ofIslands", "(IZ)I"⟩
  | 155 => ⟨"CoatedBridgesModel", "count", "(I)I"⟩
  | 156 => ⟨"CoatedBridgesModel", "type", "(I)I"⟩
  | 157 => ⟨"CoatedBridgesModel", "clearText", "()I"⟩
  | 158 => ⟨"CoatedBridgesModel", "here", "()I"⟩
  | 159 => ⟨"CoatedBridgesModel", "takes", "(Z)V"⟩
  | 160 => ⟨"CoatedBridgesModel", "takesNumber", "(I)V"⟩
  | 161 => ⟨"CoatedBridgesModel", "takesOrder", "()V"⟩
  | 162 => ⟨"CoatedBridgesModel", "errorOfOrder", "()I"⟩
  | 163 => ⟨"CoatedBridgesModel", "doesOrder", "()I"⟩
  | 164 => ⟨"CoatedBridgesModel", "doesAll", "()I"⟩
  | 165 => ⟨"CoatedBridgesModel", "fault", "(I)I"⟩
  | 166 => ⟨"CoatedBridgesModel", "play", "()I"⟩
  | 167 => ⟨"java/lang/Float", "isNaN", "(F)Z"⟩
  | 168 => ⟨"java/lang/Float", "floatToIntBits", "(F)I"⟩
  | 169 => ⟨"java/lang/Integer", "numberOfTrailingZeros", "(I)I"⟩
  | 170 => ⟨"java/lang/Integer", "bitCount", "(I)I"⟩
  | 171 => ⟨"java/lang/Math", "max", "(II)I"⟩
  | 172 => ⟨"java/lang/Math", "min", "(II)I"⟩
  | 173 => ⟨"CoatedBridgesLaw", "law", "([I)Z"⟩
  | _ => ⟨"", "", ""⟩
def mByt (mi : Nat) : ByteArray := match mi with
  | 0 => prog_2_method_1_code
  | 1 => prog_2_method_2_code
  | 2 => prog_2_method_3_code
  | 3 => prog_2_method_4_code
  | 4 => prog_2_method_5_code
  | 5 => prog_2_method_6_code
  | 6 => prog_3_method_1_code
  | 7 => prog_3_method_2_code
  | 8 => prog_3_method_3_code
  | 9 => prog_3_method_4_code
  | 10 => prog_3_method_5_code
  | 11 => prog_3_method_6_code
  | 12 => prog_3_method_7_code
  | 13 => prog_3_method_8_code
  | 14 => prog_4_method_1_code
  | 15 => prog_4_method_2_code
  | 16 => prog_4_method_3_code
  | 17 => prog_4_method_4_code
  | 18 => prog_5_method_1_code
  | 19 => prog_5_method_2_code
  | 20 => prog_5_method_3_code
  | 21 => prog_5_method_4_code
  | 22 => prog_5_method_5_code
  | 23 => prog_5_method_6_code
  | 24 => prog_5_method_7_code
  | 25 => prog_5_method_8_code
  | 26 => prog_5_method_9_code
  | 27 => prog_5_method_10_code
  | 28 => prog_5_method_11_code
  | 29 => prog_5_method_12_code
  | 30 => prog_5_method_13_code
  | 31 => prog_5_method_14_code
  | 32 => prog_5_method_15_code
  | 33 => prog_5_method_16_code
  | 34 => prog_5_method_17_code
  | 35 => prog_5_method_18_code
  | 36 => prog_5_method_19_code
  | 37 => prog_5_method_20_code
  | 38 => prog_5_method_21_code
  | 39 => prog_5_method_22_code
  | 40 => prog_5_method_23_code
  | 41 => prog_5_method_24_code
  | 42 => prog_5_method_25_code
  | 43 => prog_5_method_26_code
  | 44 => prog_5_method_27_code
  | 45 => prog_5_method_28_code
  | 46 => prog_5_method_29_code
  | 47 => prog_5_method_30_code
  | 48 => prog_5_method_31_code
  | 49 => prog_5_method_32_code
  | 50 => prog_6_method_1_code
  | 51 => prog_6_method_2_code
  | 52 => prog_6_method_3_code
  | 53 => prog_6_method_4_code
  | 54 => prog_6_method_5_code
  | 55 => prog_6_method_6_code
  | 56 => prog_6_method_7_code
  | 57 => prog_1_method_1_code
  | 58 => prog_1_method_2_code
  | 59 => prog_1_method_3_code
  | 60 => prog_1_method_4_code
  | 61 => prog_1_method_5_code
  | 62 => prog_1_method_6_code
  | 63 => prog_1_method_7_code
  | 64 => prog_1_method_8_code
  | 65 => prog_1_method_9_code
  | 66 => prog_1_method_10_code
  | 67 => prog_1_method_11_code
  | 68 => prog_1_method_12_code
  | 69 => prog_1_method_13_code
  | 70 => prog_1_method_14_code
  | 71 => prog_1_method_15_code
  | 72 => prog_1_method_16_code
  | 73 => prog_1_method_17_code
  | 74 => prog_1_method_18_code
  | 75 => prog_1_method_19_code
  | 76 => prog_1_method_20_code
  | 77 => prog_1_method_21_code
  | 78 => prog_1_method_22_code
  | 79 => prog_1_method_23_code
  | 80 => prog_1_method_24_code
  | 81 => prog_1_method_25_code
  | 82 => prog_1_method_26_code
  | 83 => prog_1_method_27_code
  | 84 => prog_1_method_28_code
  | 85 => prog_1_method_29_code
  | 86 => prog_1_method_30_code
  | 87 => prog_1_method_31_code
  | 88 => prog_1_method_32_code
  | 89 => prog_1_method_33_code
  | 90 => prog_1_method_34_code
  | 91 => prog_8_method_1_code
  | 92 => prog_8_method_3_code
  | 93 => prog_8_method_4_code
  | 94 => prog_8_method_5_code
  | 95 => prog_8_method_6_code
  | 96 => prog_8_method_7_code
  | 97 => prog_8_method_8_code
  | 98 => prog_8_method_9_code
  | 99 => prog_8_method_10_code
  | 100 => prog_8_method_11_code
  | 101 => prog_8_method_12_code
  | 102 => prog_8_method_13_code
  | 103 => prog_8_method_14_code
  | 104 => prog_8_method_15_code
  | 105 => prog_8_method_16_code
  | 106 => prog_8_method_17_code
  | 107 => prog_8_method_18_code
  | 108 => prog_8_method_19_code
  | 109 => prog_8_method_20_code
  | 110 => prog_8_method_21_code
  | 111 => prog_8_method_22_code
  | 112 => prog_8_method_23_code
  | 113 => prog_8_method_24_code
  | 114 => prog_8_method_25_code
  | 115 => prog_8_method_26_code
  | 116 => prog_8_method_27_code
  | 117 => prog_8_method_28_code
  | 118 => prog_8_method_29_code
  | 119 => prog_8_method_30_code
  | 120 => prog_8_method_31_code
  | 121 => prog_8_method_32_code
  | 122 => prog_8_method_33_code
  | 123 => prog_8_method_34_code
  | 124 => prog_8_method_35_code
  | 125 => prog_8_method_36_code
  | 126 => prog_8_method_37_code
  | 127 => prog_8_method_38_code
  | 128 => prog_8_method_39_code
  | 129 => prog_8_method_40_code
  | 130 => prog_8_method_41_code
  | 131 => prog_8_method_42_code
  | 132 => prog_8_method_43_code
  | 133 => prog_8_method_44_code
  | 134 => prog_8_method_45_code
  | 135 => prog_8_method_46_code
  | 136 => prog_8_method_47_code
  | 137 => prog_8_method_48_code
  | 138 => prog_8_method_49_code
  | 139 => prog_8_method_50_code
  | 140 => prog_8_method_51_code
  | 141 => prog_8_method_52_code
  | 142 => prog_8_method_53_code
  | 143 => prog_8_method_54_code
  | 144 => prog_8_method_55_code
  | 145 => prog_8_method_56_code
  | 146 => prog_8_method_57_code
  | 147 => prog_8_method_58_code
  | 148 => prog_8_method_59_code
  | 149 => prog_8_method_60_code
  | 150 => prog_8_method_61_code
  | 151 => prog_8_method_62_code
  | 152 => prog_8_method_63_code
  | 153 => prog_8_method_64_code
  | 154 => prog_8_method_65_code
  | 155 => prog_8_method_66_code
  | 156 => prog_8_method_67_code
  | 157 => prog_8_method_68_code
  | 158 => prog_8_method_69_code
  | 159 => prog_8_method_70_code
  | 160 => prog_8_method_71_code
  | 161 => prog_8_method_72_code
  | 162 => prog_8_method_73_code
  | 163 => prog_8_method_74_code
  | 164 => prog_8_method_75_code
  | 165 => prog_8_method_76_code
  | 166 => prog_8_method_77_code
  | 167 => prog_10_method_6_code
  | 168 => prog_10_method_24_code
  | 169 => prog_11_method_48_code
  | 170 => prog_11_method_49_code
  | 171 => prog_12_method_65_code
  | 172 => prog_12_method_69_code
  | 173 => code
  | _ => code
def mRet (mi : Nat) : Option FieldType := match mi with
  | 0 => (Option.none : Option Jvm.ClassFile.FieldType)
  | 1 => (Option.none : Option Jvm.ClassFile.FieldType)
  | 2 => (Option.none : Option Jvm.ClassFile.FieldType)
  | 3 => (Option.none : Option Jvm.ClassFile.FieldType)
  | 4 => (Option.some Jvm.ClassFile.FieldType.int)
  | 5 => (Option.some Jvm.ClassFile.FieldType.int)
  | 6 => (Option.none : Option Jvm.ClassFile.FieldType)
  | 7 => (Option.none : Option Jvm.ClassFile.FieldType)
  | 8 => (Option.none : Option Jvm.ClassFile.FieldType)
  | 9 => (Option.none : Option Jvm.ClassFile.FieldType)
  | 10 => (Option.none : Option Jvm.ClassFile.FieldType)
  | 11 => (Option.none : Option Jvm.ClassFile.FieldType)
  | 12 => (Option.none : Option Jvm.ClassFile.FieldType)
  | 13 => (Option.some Jvm.ClassFile.FieldType.int)
  | 14 => (Option.none : Option Jvm.ClassFile.FieldType)
  | 15 => (Option.none : Option Jvm.ClassFile.FieldType)
  | 16 => (Option.none : Option Jvm.ClassFile.FieldType)
  | 17 => (Option.some Jvm.ClassFile.FieldType.boolean)
  | 18 => (Option.none : Option Jvm.ClassFile.FieldType)
  | 19 => (Option.none : Option Jvm.ClassFile.FieldType)
  | 20 => (Option.some Jvm.ClassFile.FieldType.boolean)
  | 21 => (Option.some Jvm.ClassFile.FieldType.boolean)
  | 22 => (Option.some Jvm.ClassFile.FieldType.int)
  | 23 => (Option.some Jvm.ClassFile.FieldType.int)
  | 24 => (Option.some Jvm.ClassFile.FieldType.int)
  | 25 => (Option.some Jvm.ClassFile.FieldType.int)
  | 26 => (Option.some Jvm.ClassFile.FieldType.int)
  | 27 => (Option.some Jvm.ClassFile.FieldType.int)
  | 28 => (Option.some Jvm.ClassFile.FieldType.int)
  | 29 => (Option.some Jvm.ClassFile.FieldType.int)
  | 30 => (Option.none : Option Jvm.ClassFile.FieldType)
  | 31 => (Option.none : Option Jvm.ClassFile.FieldType)
  | 32 => (Option.some Jvm.ClassFile.FieldType.int)
  | 33 => (Option.none : Option Jvm.ClassFile.FieldType)
  | 34 => (Option.none : Option Jvm.ClassFile.FieldType)
  | 35 => (Option.some Jvm.ClassFile.FieldType.int)
  | 36 => (Option.some Jvm.ClassFile.FieldType.int)
  | 37 => (Option.some Jvm.ClassFile.FieldType.int)
  | 38 => (Option.some Jvm.ClassFile.FieldType.int)
  | 39 => (Option.some Jvm.ClassFile.FieldType.int)
  | 40 => (Option.some Jvm.ClassFile.FieldType.int)
  | 41 => (Option.some Jvm.ClassFile.FieldType.int)
  | 42 => (Option.some Jvm.ClassFile.FieldType.int)
  | 43 => (Option.some Jvm.ClassFile.FieldType.int)
  | 44 => (Option.some Jvm.ClassFile.FieldType.int)
  | 45 => (Option.some Jvm.ClassFile.FieldType.int)
  | 46 => (Option.some Jvm.ClassFile.FieldType.int)
  | 47 => (Option.some Jvm.ClassFile.FieldType.int)
  | 48 => (Option.some Jvm.ClassFile.FieldType.int)
  | 49 => (Option.some Jvm.ClassFile.FieldType.int)
  | 50 => (Option.none : Option Jvm.ClassFile.FieldType)
  | 51 => (Option.some Jvm.ClassFile.FieldType.boolean)
  | 52 => (Option.some Jvm.ClassFile.FieldType.boolean)
  | 53 => (Option.some Jvm.ClassFile.FieldType.int)
  | 54 => (Option.some Jvm.ClassFile.FieldType.boolean)
  | 55 => (Option.some Jvm.ClassFile.FieldType.boolean)
  | 56 => (Option.some Jvm.ClassFile.FieldType.boolean)
  | 57 => (Option.none : Option Jvm.ClassFile.FieldType)
  | 58 => (Option.some Jvm.ClassFile.FieldType.int)
  | 59 => (Option.some Jvm.ClassFile.FieldType.int)
  | 60 => (Option.some Jvm.ClassFile.FieldType.int)
  | 61 => (Option.some Jvm.ClassFile.FieldType.int)
  | 62 => (Option.some Jvm.ClassFile.FieldType.int)
  | 63 => (Option.some Jvm.ClassFile.FieldType.int)
  | 64 => (Option.some Jvm.ClassFile.FieldType.int)
  | 65 => (Option.some Jvm.ClassFile.FieldType.int)
  | 66 => (Option.some Jvm.ClassFile.FieldType.int)
  | 67 => (Option.some Jvm.ClassFile.FieldType.int)
  | 68 => (Option.some Jvm.ClassFile.FieldType.int)
  | 69 => (Option.some Jvm.ClassFile.FieldType.int)
  | 70 => (Option.some Jvm.ClassFile.FieldType.int)
  | 71 => (Option.some Jvm.ClassFile.FieldType.int)
  | 72 => (Option.some Jvm.ClassFile.FieldType.int)
  | 73 => (Option.some Jvm.ClassFile.FieldType.int)
  | 74 => (Option.some Jvm.ClassFile.FieldType.int)
  | 75 => (Option.some Jvm.ClassFile.FieldType.int)
  | 76 => (Option.some Jvm.ClassFile.FieldType.int)
  | 77 => (Option.some Jvm.ClassFile.FieldType.int)
  | 78 => (Option.some Jvm.ClassFile.FieldType.int)
  | 79 => (Option.some Jvm.ClassFile.FieldType.int)
  | 80 => (Option.some Jvm.ClassFile.FieldType.int)
  | 81 => (Option.some Jvm.ClassFile.FieldType.int)
  | 82 => (Option.some (Jvm.ClassFile.FieldType.object "CoatedBridges$State"))
  | 83 => (Option.some Jvm.ClassFile.FieldType.int)
  | 84 => (Option.none : Option Jvm.ClassFile.FieldType)
  | 85 => (Option.some Jvm.ClassFile.FieldType.int)
  | 86 => (Option.none : Option Jvm.ClassFile.FieldType)
  | 87 => (Option.some Jvm.ClassFile.FieldType.int)
  | 88 => (Option.some Jvm.ClassFile.FieldType.boolean)
  | 89 => (Option.some Jvm.ClassFile.FieldType.int)
  | 90 => (Option.some Jvm.ClassFile.FieldType.int)
  | 91 => (Option.none : Option Jvm.ClassFile.FieldType)
  | 92 => (Option.some Jvm.ClassFile.FieldType.boolean)
  | 93 => (Option.none : Option Jvm.ClassFile.FieldType)
  | 94 => (Option.none : Option Jvm.ClassFile.FieldType)
  | 95 => (Option.some Jvm.ClassFile.FieldType.boolean)
  | 96 => (Option.some Jvm.ClassFile.FieldType.boolean)
  | 97 => (Option.some Jvm.ClassFile.FieldType.int)
  | 98 => (Option.none : Option Jvm.ClassFile.FieldType)
  | 99 => (Option.none : Option Jvm.ClassFile.FieldType)
  | 100 => (Option.some Jvm.ClassFile.FieldType.int)
  | 101 => (Option.none : Option Jvm.ClassFile.FieldType)
  | 102 => (Option.none : Option Jvm.ClassFile.FieldType)
  | 103 => (Option.some Jvm.ClassFile.FieldType.boolean)
  | 104 => (Option.some Jvm.ClassFile.FieldType.boolean)
  | 105 => (Option.some Jvm.ClassFile.FieldType.int)
  | 106 => (Option.some Jvm.ClassFile.FieldType.int)
  | 107 => (Option.some Jvm.ClassFile.FieldType.int)
  | 108 => (Option.some Jvm.ClassFile.FieldType.int)
  | 109 => (Option.some Jvm.ClassFile.FieldType.int)
  | 110 => (Option.some Jvm.ClassFile.FieldType.int)
  | 111 => (Option.some Jvm.ClassFile.FieldType.int)
  | 112 => (Option.some Jvm.ClassFile.FieldType.int)
  | 113 => (Option.some Jvm.ClassFile.FieldType.int)
  | 114 => (Option.some Jvm.ClassFile.FieldType.int)
  | 115 => (Option.some Jvm.ClassFile.FieldType.int)
  | 116 => (Option.none : Option Jvm.ClassFile.FieldType)
  | 117 => (Option.none : Option Jvm.ClassFile.FieldType)
  | 118 => (Option.some Jvm.ClassFile.FieldType.int)
  | 119 => (Option.none : Option Jvm.ClassFile.FieldType)
  | 120 => (Option.some Jvm.ClassFile.FieldType.int)
  | 121 => (Option.some Jvm.ClassFile.FieldType.int)
  | 122 => (Option.some Jvm.ClassFile.FieldType.int)
  | 123 => (Option.some Jvm.ClassFile.FieldType.int)
  | 124 => (Option.some Jvm.ClassFile.FieldType.int)
  | 125 => (Option.some Jvm.ClassFile.FieldType.int)
  | 126 => (Option.some Jvm.ClassFile.FieldType.int)
  | 127 => (Option.some Jvm.ClassFile.FieldType.int)
  | 128 => (Option.some Jvm.ClassFile.FieldType.int)
  | 129 => (Option.some Jvm.ClassFile.FieldType.int)
  | 130 => (Option.some Jvm.ClassFile.FieldType.int)
  | 131 => (Option.some Jvm.ClassFile.FieldType.int)
  | 132 => (Option.some Jvm.ClassFile.FieldType.int)
  | 133 => (Option.some Jvm.ClassFile.FieldType.int)
  | 134 => (Option.some Jvm.ClassFile.FieldType.int)
  | 135 => (Option.some Jvm.ClassFile.FieldType.int)
  | 136 => (Option.some Jvm.ClassFile.FieldType.int)
  | 137 => (Option.some Jvm.ClassFile.FieldType.int)
  | 138 => (Option.some Jvm.ClassFile.FieldType.int)
  | 139 => (Option.some Jvm.ClassFile.FieldType.int)
  | 140 => (Option.some Jvm.ClassFile.FieldType.int)
  | 141 => (Option.some Jvm.ClassFile.FieldType.int)
  | 142 => (Option.some Jvm.ClassFile.FieldType.int)
  | 143 => (Option.some Jvm.ClassFile.FieldType.int)
  | 144 => (Option.some Jvm.ClassFile.FieldType.int)
  | 145 => (Option.some Jvm.ClassFile.FieldType.int)
  | 146 => (Option.some Jvm.ClassFile.FieldType.int)
  | 147 => (Option.some Jvm.ClassFile.FieldType.int)
  | 148 => (Option.some Jvm.ClassFile.FieldType.int)
  | 149 => (Option.some Jvm.ClassFile.FieldType.int)
  | 150 => (Option.some Jvm.ClassFile.FieldType.int)
  | 151 => (Option.some Jvm.ClassFile.FieldType.int)
  | 152 => (Option.some Jvm.ClassFile.FieldType.int)
  | 153 => (Option.some Jvm.ClassFile.FieldType.int)
  | 154 => (Option.some Jvm.ClassFile.FieldType.int)
  | 155 => (Option.some Jvm.ClassFile.FieldType.int)
  | 156 => (Option.some Jvm.ClassFile.FieldType.int)
  | 157 => (Option.some Jvm.ClassFile.FieldType.int)
  | 158 => (Option.some Jvm.ClassFile.FieldType.int)
  | 159 => (Option.none : Option Jvm.ClassFile.FieldType)
  | 160 => (Option.none : Option Jvm.ClassFile.FieldType)
  | 161 => (Option.none : Option Jvm.ClassFile.FieldType)
  | 162 => (Option.some Jvm.ClassFile.FieldType.int)
  | 163 => (Option.some Jvm.ClassFile.FieldType.int)
  | 164 => (Option.some Jvm.ClassFile.FieldType.int)
  | 165 => (Option.some Jvm.ClassFile.FieldType.int)
  | 166 => (Option.some Jvm.ClassFile.FieldType.int)
  | 167 => (Option.some Jvm.ClassFile.FieldType.boolean)
  | 168 => (Option.some Jvm.ClassFile.FieldType.int)
  | 169 => (Option.some Jvm.ClassFile.FieldType.int)
  | 170 => (Option.some Jvm.ClassFile.FieldType.int)
  | 171 => (Option.some Jvm.ClassFile.FieldType.int)
  | 172 => (Option.some Jvm.ClassFile.FieldType.int)
  | 173 => ((Option.some (Jvm.ClassFile.FieldType.boolean)))
  | _ => none
/-- own class, pool entry, class and field (100 * class + number), the place of its word -/
def lkF_0 : List (Nat × Nat × Nat × Nat) := [(0, 9, 0, 108), (0, 15, 1, 109), (0, 18, 2, 110), (1, 9, 100, 156), (1, 15, 101, 158), (1, 18, 102, 160), (1, 21, 103, 162), (1, 24, 104, 164), (1, 27, 105, 167), (1, 30, 106, 170), (1, 33, 107, 172), (1, 36, 108, 175), (2, 7, 200, 125), (2, 13, 201, 128), (2, 16, 202, 131), (2, 19, 203, 134), (2, 22, 204, 137), (3, 11, 300, 196), (3, 19, 301, 198), (3, 32, 302, 200), (3, 38, 303, 202), (3, 42, 304, 204), (3, 46, 307, 210), (3, 55, 305, 206), (3, 64, 306, 208), (3, 67, 308, 212), (3, 70, 309, 214), (3, 73, 310, 216), (3, 103, 105, 168), (3, 109, 104, 165), (3, 155, 107, 174), (3, 162, 201, 130), (3, 165, 200, 127), (3, 174, 204, 139), (3, 194, 102, 161), (3, 200, 203, 136), (3, 203, 202, 133), (4, 9, 400, 248), (4, 15, 402, 251), (4, 19, 401, 249), (4, 23, 404, 255), (4, 26, 403, 253), (5, 10, 500, 269), (5, 16, 501, 270), (5, 19, 502, 271), (5, 26, 504, 273), (5, 66, 301, 199), (5, 70, 100, 157), (5, 76, 101, 159), (5, 79, 103, 163), (5, 82, 104, 166), (5, 85, 105, 169), (5, 88, 106, 171), (5, 91, 107, 173), (5, 94, 108, 176), (5, 108, 300, 197), (5, 115, 201, 129), (5, 120, 200, 126), (5, 123, 203, 135), (5, 126, 202, 132)]
def lkF_1 : List (Nat × Nat × Nat × Nat) := [(5, 129, 204, 138), (5, 138, 303, 203), (5, 170, 305, 207), (5, 180, 302, 201), (5, 184, 306, 209), (5, 187, 304, 205), (5, 208, 307, 211), (5, 211, 308, 213), (5, 212, 309, 215), (5, 215, 310, 217), (5, 218, 2, 111), (5, 221, 503, 272), (5, 224, 401, 250), (5, 234, 505, 274), (5, 237, 506, 275), (5, 240, 507, 276), (5, 253, 404, 256), (5, 263, 402, 252), (5, 266, 403, 254), (6, 7, 600, 681), (6, 13, 601, 682), (6, 16, 602, 683), (6, 19, 603, 684), (6, 22, 605, 686), (6, 25, 607, 688), (6, 29, 612, 693), (6, 32, 604, 685), (6, 190, 606, 687), (6, 193, 608, 689), (6, 196, 610, 691), (6, 203, 609, 690), (6, 206, 611, 692), (6, 216, 613, 694), (6, 225, 614, 695)]
def lkF : List (Nat × Nat × Nat × Nat) := lkF_0 ++ (lkF_1)
/-- own class, pool entry, constant, place -/
def lkK : List (Nat × Nat × Int × Nat) := [(0, 25, -1000004, 538), (3, 76, -1000001, 322), (3, 77, -1000003, 323), (3, 96, -1000002, 397), (3, 112, 999999, 422), (3, 190, -1000004, 488), (5, 65, -1000001, 506), (5, 159, -1000004, 556), (5, 163, -1000002, 566), (5, 229, -1000003, 631), (6, 55, -1000004, 808), (6, 110, -1000001, 739), (6, 111, -1000003, 740), (6, 118, -1000002, 817), (6, 119, 999999, 846), (10, 77, 2143289344, 975), (8, 264, 65536, 555), (8, 265, 1431655765, 379), (8, 266, 858993459, 380), (8, 267, 252645135, 381)]
def lkFK : List (Nat × Nat × Nat × Nat) := [(5, 275, 1258291200, 595)]
def lkA : List (Nat × Nat × Nat × Nat) := [(3, 9, 13, 89), (3, 17, 14, 91), (5, 7, 15, 83)]
def lkN : List (Nat × Nat × Nat × Nat × Nat × Nat) := [(3, 35, 0, 102, 103, 67), (3, 9, 2, 89, 120, 68), (3, 17, 1, 91, 151, 69), (5, 7, 3, 83, 84, 66), (5, 23, 4, 242, 243, 70), (7, 7, 5, 75, 76, 65), (7, 10, 6, 675, 676, 71)]
def lkO : List (Nat × Nat × Nat) := [(0, 3, 107), (1, 3, 155), (2, 1, 124), (3, 3, 88), (4, 3, 247), (5, 1, 80), (6, 1, 680)]
def lkS : List (Nat × Nat × Nat) := [(3, 23, 0), (3, 116, 1), (3, 119, 2)]
def lkC : List (Nat × Nat × Nat) := [(3, 27, 95)]
def lkB : List (Nat × Nat × Nat) := [(10, 74, 972)]
def lkX : List (Nat × Nat × Nat) := [(3, 28, 101)]
/-- own class, pool entry, callee, kind, places: link, instance or static, selects, code, initialised -/
def lkM_0 : List (Nat × Nat × Nat × Nat × Nat × Nat × Nat × Nat × Nat) := [(0, 22, 3, 0, 480, 482, 9, 483, 67), (1, 39, 172, 1, 447, 448, 0, 449, 73), (1, 45, 10, 0, 450, 411, 412, 413, 69), (1, 48, 171, 1, 462, 383, 0, 384, 73), (2, 25, 171, 1, 475, 383, 0, 384, 73), (3, 37, 0, 5, 104, 105, 0, 106, 67), (3, 49, 14, 5, 121, 122, 0, 123, 68), (3, 50, 6, 5, 152, 153, 0, 154, 69), (3, 51, 16, 0, 306, 307, 308, 309, 68), (3, 58, 8, 0, 310, 311, 312, 313, 69), (3, 61, 1, 0, 314, 315, 316, 317, 67), (3, 78, 15, 0, 324, 325, 326, 327, 68), (3, 82, 20, 0, 344, 345, 346, 347, 66), (3, 86, 7, 0, 348, 349, 350, 351, 69), (3, 89, 21, 0, 360, 361, 362, 363, 66), (3, 92, 36, 0, 364, 365, 366, 367, 66), (3, 97, 41, 0, 385, 386, 387, 388, 66), (3, 100, 9, 0, 398, 399, 400, 401, 69), (3, 106, 10, 0, 410, 411, 412, 413, 69), (3, 113, 34, 0, 423, 425, 4, 426, 66), (3, 122, 29, 0, 435, 436, 437, 438, 66), (3, 126, 38, 0, 372, 373, 374, 375, 66), (3, 129, 30, 0, 439, 441, 5, 442, 66), (3, 132, 31, 0, 451, 453, 6, 454, 66), (3, 135, 32, 0, 463, 465, 7, 466, 66), (3, 138, 2, 0, 476, 477, 478, 479, 67), (3, 142, 37, 0, 484, 485, 486, 487, 66), (3, 145, 11, 0, 443, 444, 445, 446, 69), (3, 148, 88, 4, 455, 456, 0, 457, 65), (3, 152, 12, 0, 458, 459, 460, 461, 69), (3, 158, 39, 0, 389, 390, 391, 392, 66), (3, 168, 33, 0, 467, 469, 8, 470, 66), (3, 171, 17, 0, 471, 472, 473, 474, 68), (3, 177, 170, 1, 376, 377, 0, 378, 72), (3, 182, 171, 1, 382, 383, 0, 384, 73), (3, 187, 35, 0, 368, 369, 370, 371, 66), (3, 191, 40, 0, 393, 395, 3, 396, 66), (3, 197, 89, 4, 609, 550, 0, 551, 65), (4, 30, 53, 1, 648, 649, 0, 650, 70), (4, 34, 54, 0, 651, 653, 11, 654, 70)]
def lkM_1 : List (Nat × Nat × Nat × Nat × Nat × Nat × Nat × Nat × Nat) := [(4, 38, 55, 0, 655, 657, 12, 658, 70), (4, 42, 56, 0, 659, 661, 13, 662, 70), (5, 9, 18, 2, 85, 86, 0, 87, 66), (5, 25, 50, 5, 244, 245, 0, 246, 70), (5, 30, 82, 0, 298, 300, 0, 301, 65), (5, 34, 22, 0, 318, 319, 320, 321, 66), (5, 38, 83, 0, 328, 330, 1, 331, 65), (5, 41, 23, 0, 340, 341, 342, 343, 66), (5, 45, 24, 0, 356, 357, 358, 359, 66), (5, 49, 25, 0, 406, 407, 408, 409, 66), (5, 52, 26, 0, 418, 419, 420, 421, 66), (5, 55, 28, 0, 431, 432, 433, 434, 66), (5, 58, 27, 0, 493, 494, 495, 496, 66), (5, 61, 21, 0, 505, 361, 362, 363, 66), (5, 97, 42, 0, 507, 508, 509, 510, 66), (5, 101, 88, 1, 511, 456, 0, 457, 65), (5, 105, 20, 0, 516, 345, 346, 347, 66), (5, 112, 39, 0, 517, 390, 391, 392, 66), (5, 132, 44, 0, 518, 519, 520, 521, 66), (5, 135, 43, 0, 522, 523, 524, 525, 66), (5, 142, 4, 0, 534, 535, 536, 537, 67), (5, 147, 5, 0, 539, 540, 541, 542, 67), (5, 150, 36, 0, 547, 365, 366, 367, 66), (5, 153, 41, 0, 548, 386, 387, 388, 66), (5, 156, 89, 1, 549, 550, 0, 551, 65), (5, 160, 37, 0, 561, 485, 486, 487, 66), (5, 164, 13, 0, 567, 568, 569, 570, 69), (5, 167, 29, 0, 575, 436, 437, 438, 66), (5, 173, 47, 0, 588, 589, 590, 591, 66), (5, 176, 90, 1, 592, 593, 0, 594, 65), (5, 190, 38, 0, 600, 373, 374, 375, 66), (5, 193, 45, 0, 601, 602, 603, 604, 66), (5, 196, 46, 0, 605, 606, 607, 608, 66), (5, 199, 35, 0, 610, 369, 370, 371, 66), (5, 202, 48, 0, 611, 612, 613, 614, 66), (5, 205, 49, 0, 615, 616, 617, 618, 66), (5, 225, 51, 0, 627, 628, 629, 630, 70), (5, 230, 85, 0, 640, 642, 10, 643, 65), (5, 243, 19, 0, 302, 303, 304, 305, 66), (5, 247, 84, 0, 332, 334, 2, 335, 65)]
def lkM_2 : List (Nat × Nat × Nat × Nat × Nat × Nat × Nat × Nat × Nat) := [(5, 250, 52, 0, 644, 645, 646, 647, 70), (5, 256, 86, 0, 663, 665, 14, 666, 65), (5, 260, 87, 0, 667, 669, 15, 670, 65), (5, 270, 169, 1, 552, 553, 0, 554, 72), (6, 36, 93, 1, 745, 746, 0, 747, 71), (6, 40, 92, 1, 736, 737, 0, 738, 71), (6, 44, 97, 0, 796, 798, 28, 799, 71), (6, 48, 103, 0, 792, 794, 27, 795, 71), (6, 52, 104, 0, 813, 815, 32, 816, 71), (6, 56, 106, 0, 809, 811, 31, 812, 71), (6, 59, 108, 0, 800, 802, 29, 803, 71), (6, 63, 107, 0, 804, 806, 30, 807, 71), (6, 67, 109, 0, 788, 790, 26, 791, 71), (6, 70, 101, 0, 752, 754, 19, 755, 71), (6, 74, 98, 0, 772, 774, 23, 775, 71), (6, 77, 99, 0, 822, 824, 34, 825, 71), (6, 80, 100, 0, 879, 881, 45, 882, 71), (6, 83, 102, 0, 883, 885, 46, 886, 71), (6, 87, 116, 0, 867, 869, 42, 870, 71), (6, 91, 117, 0, 871, 873, 43, 874, 71), (6, 94, 118, 0, 875, 877, 44, 878, 71), (6, 98, 119, 0, 887, 889, 47, 890, 71), (6, 101, 110, 0, 891, 893, 48, 894, 71), (6, 104, 113, 0, 818, 820, 33, 821, 71), (6, 107, 120, 0, 863, 865, 41, 866, 71), (6, 112, 95, 0, 764, 766, 21, 767, 71), (6, 115, 96, 0, 784, 786, 25, 787, 71), (6, 120, 122, 0, 732, 734, 16, 735, 71), (6, 123, 94, 0, 741, 743, 17, 744, 71), (6, 126, 111, 0, 748, 750, 18, 751, 71), (6, 129, 123, 0, 760, 762, 20, 763, 71), (6, 133, 112, 0, 768, 770, 22, 771, 71), (6, 136, 124, 0, 780, 782, 24, 783, 71), (6, 139, 125, 0, 830, 832, 35, 833, 71), (6, 142, 114, 0, 834, 836, 36, 837, 71), (6, 145, 126, 0, 842, 844, 37, 845, 71), (6, 148, 115, 0, 847, 849, 38, 850, 71), (6, 151, 127, 0, 855, 857, 39, 858, 71), (6, 154, 121, 0, 859, 861, 40, 862, 71), (6, 157, 134, 1, 899, 900, 0, 901, 71)]
def lkM_3 : List (Nat × Nat × Nat × Nat × Nat × Nat × Nat × Nat × Nat) := [(6, 160, 105, 0, 910, 912, 49, 913, 71), (6, 163, 138, 0, 918, 920, 50, 921, 71), (6, 166, 139, 0, 922, 924, 51, 925, 71), (6, 169, 143, 0, 938, 940, 52, 941, 71), (6, 172, 168, 1, 966, 967, 0, 968, 74), (6, 178, 151, 0, 980, 982, 53, 983, 71), (6, 181, 152, 0, 984, 986, 54, 987, 71), (6, 184, 153, 0, 988, 990, 55, 991, 71), (6, 187, 154, 0, 992, 994, 56, 995, 71), (6, 200, 158, 0, 1016, 1018, 59, 1019, 71), (6, 209, 159, 0, 1020, 1022, 60, 1023, 71), (6, 213, 160, 0, 1024, 1026, 61, 1027, 71), (6, 219, 161, 0, 1012, 1014, 58, 1015, 71), (6, 222, 162, 0, 1028, 1030, 62, 1031, 71), (6, 228, 163, 0, 1032, 1034, 63, 1035, 71), (6, 231, 164, 0, 1008, 1010, 57, 1011, 71), (10, 59, 167, 1, 969, 970, 0, 971, 74), (7, 9, 57, 2, 77, 78, 0, 79, 65), (7, 12, 91, 2, 677, 678, 0, 679, 71), (7, 13, 58, 0, 294, 295, 296, 297, 65), (7, 17, 128, 0, 728, 729, 730, 731, 71), (7, 18, 59, 0, 336, 337, 338, 339, 65), (7, 22, 129, 0, 756, 757, 758, 759, 71), (7, 23, 60, 0, 352, 353, 354, 355, 65), (7, 27, 130, 0, 776, 777, 778, 779, 71), (7, 28, 61, 0, 402, 403, 404, 405, 65), (7, 31, 131, 0, 826, 827, 828, 829, 71), (7, 32, 62, 0, 414, 415, 416, 417, 65), (7, 35, 132, 0, 838, 839, 840, 841, 71), (7, 36, 63, 0, 427, 428, 429, 430, 65), (7, 39, 133, 0, 851, 852, 853, 854, 71), (7, 40, 64, 0, 489, 490, 491, 492, 65), (7, 43, 135, 0, 895, 896, 897, 898, 71), (7, 44, 65, 0, 501, 502, 503, 504, 65), (7, 47, 137, 0, 906, 907, 908, 909, 71), (7, 48, 66, 0, 512, 513, 514, 515, 65), (7, 51, 140, 0, 914, 915, 916, 917, 71), (7, 52, 67, 0, 526, 527, 528, 529, 65), (7, 55, 141, 0, 926, 927, 928, 929, 71), (7, 56, 68, 0, 530, 531, 532, 533, 65)]
def lkM_4 : List (Nat × Nat × Nat × Nat × Nat × Nat × Nat × Nat × Nat) := [(7, 59, 142, 0, 930, 931, 932, 933, 71), (7, 60, 69, 0, 543, 544, 545, 546, 65), (7, 63, 144, 0, 934, 935, 936, 937, 71), (7, 64, 70, 0, 557, 558, 559, 560, 65), (7, 68, 145, 0, 942, 943, 944, 945, 71), (7, 69, 71, 0, 562, 563, 564, 565, 65), (7, 72, 146, 0, 946, 947, 948, 949, 71), (7, 73, 72, 0, 571, 572, 573, 574, 65), (7, 76, 147, 0, 950, 951, 952, 953, 71), (7, 77, 73, 0, 576, 577, 578, 579, 65), (7, 80, 148, 0, 954, 955, 956, 957, 71), (7, 81, 74, 0, 580, 581, 582, 583, 65), (7, 84, 149, 0, 958, 959, 960, 961, 71), (7, 85, 75, 0, 584, 585, 586, 587, 65), (7, 88, 150, 0, 962, 963, 964, 965, 71), (7, 89, 76, 0, 596, 597, 598, 599, 65), (7, 92, 155, 0, 976, 977, 978, 979, 71), (7, 93, 77, 0, 619, 620, 621, 622, 65), (7, 96, 136, 0, 902, 903, 904, 905, 71), (7, 97, 78, 0, 623, 624, 625, 626, 65), (7, 100, 156, 0, 996, 997, 998, 999, 71), (7, 101, 79, 0, 632, 633, 634, 635, 65), (7, 104, 157, 0, 1000, 1001, 1002, 1003, 71), (7, 105, 80, 0, 636, 637, 638, 639, 65), (7, 108, 165, 0, 1004, 1005, 1006, 1007, 71), (7, 109, 81, 0, 671, 672, 673, 674, 65), (7, 112, 166, 0, 1036, 1037, 1038, 1039, 71)]
def lkM : List (Nat × Nat × Nat × Nat × Nat × Nat × Nat × Nat × Nat) := lkM_0 ++ (lkM_1 ++ (lkM_2 ++ (lkM_3 ++ (lkM_4))))
/-- the words that do not keep: links of nest mates, what is over a class, castable: a list -/
def nstW : List Cond := [.fieldLinkNest "CoatedBridges$State" 23 "CoatedBridges" "FIRST_SETTINGS" "[I" "CoatedBridges", .fieldLinkNest "CoatedBridges$State" 116 "CoatedBridges" "LOWEST_SETTINGS" "[I" "CoatedBridges", .fieldLinkNest "CoatedBridges$State" 119 "CoatedBridges" "HIGHEST_SETTINGS" "[I" "CoatedBridges", .methodLinkNest "CoatedBridges$State" 37 (⟨"CoatedBridges$Book", "<init>", "()V"⟩ : MethodName) "CoatedBridges", .methodLinkNest "CoatedBridges$State" 49 (⟨"CoatedBridges$Island", "<init>", "()V"⟩ : MethodName) "CoatedBridges", .methodLinkNest "CoatedBridges$State" 50 (⟨"CoatedBridges$Bridge", "<init>", "()V"⟩ : MethodName) "CoatedBridges", .methodLinkNest "CoatedBridges$State" 148 (⟨"CoatedBridges", "holds", "(II)Z"⟩ : MethodName) "CoatedBridges", .methodLinkNest "CoatedBridges$State" 197 (⟨"CoatedBridges", "lowestIn", "(I)I"⟩ : MethodName) "CoatedBridges", .methodLinkNest "CoatedBridges" 25 (⟨"CoatedBridges$Text", "<init>", "()V"⟩ : MethodName) "CoatedBridges"]
def nstP : List Nat := [93, 497, 499, 104, 121, 152, 455, 609, 244]
