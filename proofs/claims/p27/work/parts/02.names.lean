/-! PRINTED by gen.py out of the claim's own tables: classes, normalised code, links. Methods by number:
0 CoatedBridges$Book.<init>()V locals 1 depth 1 heads []
1 CoatedBridges$Book.copyFrom(LCoatedBridges$Book;)V locals 3 depth 0 heads [10]
2 CoatedBridges$Book.note(II)V locals 3 depth 1 heads []
3 CoatedBridges$Book.dropFirst()V locals 2 depth 0 heads [2]
4 CoatedBridges$Book.dayAgo(I)I locals 2 depth 0 heads []
5 CoatedBridges$Book.complaintsAgo(I)I locals 2 depth 0 heads []
6 CoatedBridges$Bridge.<init>()V locals 1 depth 1 heads []
7 CoatedBridges$Bridge.begin(III)V locals 4 depth 0 heads []
8 CoatedBridges$Bridge.copyFrom(LCoatedBridges$Bridge;)V locals 2 depth 0 heads []
9 CoatedBridges$Bridge.takeCrew()V locals 1 depth 0 heads []
10 CoatedBridges$Bridge.loseCrew()V locals 1 depth 0 heads []
11 CoatedBridges$Bridge.paint(II)V locals 3 depth 1 heads []
12 CoatedBridges$Bridge.wearOff()V locals 1 depth 1 heads []
13 CoatedBridges$Bridge.daysUntilRusted()I locals 2 depth 0 heads [2]
14 CoatedBridges$Island.<init>()V locals 1 depth 1 heads []
15 CoatedBridges$Island.begin(I)V locals 2 depth 0 heads []
16 CoatedBridges$Island.copyFrom(LCoatedBridges$Island;)V locals 2 depth 0 heads []
17 CoatedBridges$Island.waitAlone(I)Z locals 2 depth 1 heads []
18 CoatedBridges$State.<init>()V locals 2 depth 2 heads [60, 87]
19 CoatedBridges$State.copyFrom(LCoatedBridges$State;)V locals 3 depth 1 heads [10, 49, 80]
20 CoatedBridges$State.hasIsland(I)Z locals 2 depth 0 heads []
21 CoatedBridges$State.hasBridge(I)Z locals 2 depth 0 heads []
22 CoatedBridges$State.addIsland(I)I locals 2 depth 1 heads []
23 CoatedBridges$State.addBridge(III)I locals 4 depth 1 heads []
24 CoatedBridges$State.sendCrew(II)I locals 6 depth 4 heads []
25 CoatedBridges$State.callBack(I)I locals 2 depth 1 heads []
26 CoatedBridges$State.payIn(I)I locals 2 depth 1 heads []
27 CoatedBridges$State.changeSetting(II)I locals 4 depth 0 heads []
28 CoatedBridges$State.endDays(I)I locals 4 depth 4 heads [33]
29 CoatedBridges$State.endDay()I locals 5 depth 3 heads [58]
30 CoatedBridges$State.paintBridges()V locals 3 depth 2 heads [9]
31 CoatedBridges$State.wearBridges(I)V locals 3 depth 2 heads [2]
32 CoatedBridges$State.letIslandsWait()I locals 5 depth 2 heads [11]
33 CoatedBridges$State.payFerry(LCoatedBridges$Island;)V locals 2 depth 0 heads []
34 CoatedBridges$State.receive(I)V locals 2 depth 0 heads []
35 CoatedBridges$State.freeCrews()I locals 1 depth 1 heads []
36 CoatedBridges$State.reasonAgainst(I)I locals 2 depth 3 heads []
37 CoatedBridges$State.bridgeToPaintNext()I locals 6 depth 2 heads [33]
38 CoatedBridges$State.bridgesThatAre(I)I locals 4 depth 0 heads [4]
39 CoatedBridges$State.reachFrom(II)I locals 6 depth 1 heads [7]
40 CoatedBridges$State.oneBridgeOn(II)I locals 6 depth 0 heads [5]
41 CoatedBridges$State.lostWithout(I)I locals 2 depth 2 heads []
42 CoatedBridges$State.neededBridges()I locals 4 depth 2 heads [11]
43 CoatedBridges$State.bridgesTo(I)I locals 4 depth 1 heads [4]
44 CoatedBridges$State.openBridgesAt(I)I locals 4 depth 1 heads [4]
45 CoatedBridges$State.groups()I locals 4 depth 2 heads [6]
46 CoatedBridges$State.lowestOnes()I locals 3 depth 2 heads [4]
47 CoatedBridges$State.coatsTogether()I locals 3 depth 0 heads [4]
48 CoatedBridges$State.complaintsSoFar()I locals 3 depth 0 heads [4]
49 CoatedBridges$State.longestWaitSoFar()I locals 3 depth 1 heads [4]
50 CoatedBridges$Text.<init>()V locals 1 depth 1 heads []
51 CoatedBridges$Text.append(C)Z locals 2 depth 0 heads []
52 CoatedBridges$Text.readOrder(I)Z locals 4 depth 2 heads [44]
53 CoatedBridges$Text.numbersOf(C)I locals 1 depth 0 heads []
54 CoatedBridges$Text.take(C)Z locals 2 depth 0 heads []
55 CoatedBridges$Text.readNumber(I)Z locals 4 depth 1 heads [4]
56 CoatedBridges$Text.atDigit()Z locals 1 depth 0 heads []
57 CoatedBridges.<init>()V locals 2 depth 3 heads [47]
58 CoatedBridges.island(I)I locals 2 depth 3 heads []
59 CoatedBridges.bridge(III)I locals 4 depth 3 heads []
60 CoatedBridges.send(II)I locals 3 depth 5 heads []
61 CoatedBridges.recall(I)I locals 2 depth 3 heads []
62 CoatedBridges.pay(I)I locals 2 depth 3 heads []
63 CoatedBridges.days(I)I locals 2 depth 5 heads []
64 CoatedBridges.set(II)I locals 3 depth 3 heads []
65 CoatedBridges.bridgeOf(II)I locals 4 depth 3 heads []
66 CoatedBridges.islandOf(II)I locals 4 depth 2 heads []
67 CoatedBridges.reach(I)I locals 2 depth 2 heads []
68 CoatedBridges.book(II)I locals 3 depth 1 heads []
69 CoatedBridges.why(II)I locals 4 depth 4 heads []
70 CoatedBridges.best()I locals 1 depth 3 heads []
71 CoatedBridges.rustsIn(I)I locals 3 depth 1 heads []
72 CoatedBridges.paintedIn(I)I locals 4 depth 4 heads [40]
73 CoatedBridges.aloneIn()I locals 4 depth 4 heads [17]
74 CoatedBridges.ifDays(I)I locals 5 depth 4 heads [24]
75 CoatedBridges.mean()I locals 1 depth 1 heads []
76 CoatedBridges.count(I)I locals 2 depth 3 heads []
77 CoatedBridges.undo()I locals 2 depth 0 heads []
78 CoatedBridges.type(I)I locals 2 depth 1 heads []
79 CoatedBridges.clearText()I locals 2 depth 0 heads []
80 CoatedBridges.fault(I)I locals 2 depth 7 heads []
81 CoatedBridges.play()I locals 1 depth 7 heads []
82 CoatedBridges.startTrial()LCoatedBridges$State; locals 1 depth 2 heads []
83 CoatedBridges.settle(I)I locals 3 depth 1 heads []
84 CoatedBridges.dropOldest()V locals 3 depth 0 heads [9]
85 CoatedBridges.obeyText(LCoatedBridges$State;)I locals 5 depth 6 heads [4]
86 CoatedBridges.noteFault(III)V locals 4 depth 0 heads []
87 CoatedBridges.obeyOrder(LCoatedBridges$State;)I locals 3 depth 5 heads []
88 CoatedBridges.holds(II)Z locals 2 depth 0 heads []
89 CoatedBridges.lowestIn(I)I locals 1 depth 1 heads []
90 CoatedBridges.bitsOf(F)I locals 4 depth 0 heads [15, 42]
91 java/lang/Integer.numberOfTrailingZeros(I)I locals 2 depth 0 heads []
92 java/lang/Integer.bitCount(I)I locals 1 depth 0 heads []
93 java/lang/Math.max(II)I locals 2 depth 0 heads []
94 java/lang/Math.min(II)I locals 2 depth 0 heads []
95 CoatedBridgesLaw.lot([II)I locals 2 depth 0 heads []
96 CoatedBridgesLaw.low(II)I locals 2 depth 0 heads []
97 CoatedBridgesLaw.look(LCoatedBridges;)J locals 5 depth 4 heads [6, 34, 61, 73, 109, 121, 157]
98 CoatedBridgesLaw.holds(LCoatedBridges;)Z locals 11 depth 4 heads [29, 39, 193, 231, 322, 386, 414, 470, 505, 571, 649, 706, 737]
99 CoatedBridgesLaw.would(LCoatedBridges;I)Z locals 13 depth 5 heads [161, 249]
100 CoatedBridgesLaw.number(LCoatedBridges;I)Z locals 2 depth 2 heads [20, 43]
101 CoatedBridgesLaw.types(LCoatedBridges;I)Z locals 7 depth 4 heads [23, 123, 246, 257, 349, 361, 404]
102 CoatedBridgesLaw.reads(LCoatedBridges;I)Z locals 11 depth 8 heads [95, 122, 155]
103 CoatedBridgesLaw.crews(LCoatedBridges;II)Z locals 13 depth 6 heads [26, 66, 84, 102, 141, 248, 269, 287]
104 CoatedBridgesLaw.acts(LCoatedBridges;II)Z locals 12 depth 9 heads [53, 114, 123, 171, 190, 224, 264, 351, 374, 407, 453, 462, 487, 509, 533, 581, 642, 718, 755, 777, 799, 839]
105 CoatedBridgesLaw.law([I)Z locals 11 depth 10 heads [8, 37, 40, 76, 148, 198, 249, 297]
-/
def RX0 : String := "CoatedBridges$Book"
def TX0 : u_T := fun k => match k with
  | 0 => ("CoatedBridges$Book", "days", "[I", true)
  | 1 => ("CoatedBridges$Book", "complaints", "[I", true)
  | _ => ("CoatedBridges$Book", "length", "I", false)
def tyX0 : Nat → FieldType := fun k => match k with
  | 0 => .array .int
  | 1 => .array .int
  | _ => .int
theorem nmX0 : ∀ a, a < 3 → ∀ b, b < 3 → a ≠ b → (TX0 a).2.1 ≠ (TX0 b).2.1 := by decide +kernel
theorem tyX0_ok : ∀ k, k < 3 → parseFieldDescriptor (TX0 k).2.2.1 = some (tyX0 k) := by decide +kernel
def RX1 : String := "CoatedBridges$Bridge"
def TX1 : u_T := fun k => match k with
  | 0 => ("CoatedBridges$Bridge", "one", "I", false)
  | 1 => ("CoatedBridges$Bridge", "other", "I", false)
  | 2 => ("CoatedBridges$Bridge", "ends", "I", false)
  | 3 => ("CoatedBridges$Bridge", "wear", "I", false)
  | 4 => ("CoatedBridges$Bridge", "coat", "I", false)
  | 5 => ("CoatedBridges$Bridge", "condition", "I", false)
  | 6 => ("CoatedBridges$Bridge", "timesSent", "I", false)
  | 7 => ("CoatedBridges$Bridge", "closedDays", "I", false)
  | _ => ("CoatedBridges$Bridge", "paintCoins", "I", false)
def tyX1 : Nat → FieldType := fun k => match k with
  | 0 => .int
  | 1 => .int
  | 2 => .int
  | 3 => .int
  | 4 => .int
  | 5 => .int
  | 6 => .int
  | 7 => .int
  | _ => .int
theorem nmX1 : ∀ a, a < 9 → ∀ b, b < 9 → a ≠ b → (TX1 a).2.1 ≠ (TX1 b).2.1 := by decide +kernel
theorem tyX1_ok : ∀ k, k < 9 → parseFieldDescriptor (TX1 k).2.2.1 = some (tyX1 k) := by decide +kernel
def RX2 : String := "CoatedBridges$Island"
def TX2 : u_T := fun k => match k with
  | 0 => ("CoatedBridges$Island", "fare", "I", false)
  | 1 => ("CoatedBridges$Island", "waited", "I", false)
  | 2 => ("CoatedBridges$Island", "longestWait", "I", false)
  | 3 => ("CoatedBridges$Island", "complaints", "I", false)
  | _ => ("CoatedBridges$Island", "ferryDays", "I", false)
def tyX2 : Nat → FieldType := fun k => match k with
  | 0 => .int
  | 1 => .int
  | 2 => .int
  | 3 => .int
  | _ => .int
theorem nmX2 : ∀ a, a < 5 → ∀ b, b < 5 → a ≠ b → (TX2 a).2.1 ≠ (TX2 b).2.1 := by decide +kernel
theorem tyX2_ok : ∀ k, k < 5 → parseFieldDescriptor (TX2 k).2.2.1 = some (tyX2 k) := by decide +kernel
def RX3 : String := "CoatedBridges$State"
def TX3 : u_T := fun k => match k with
  | 0 => ("CoatedBridges$State", "islands", "[LCoatedBridges$Island;", true)
  | 1 => ("CoatedBridges$State", "bridges", "[LCoatedBridges$Bridge;", true)
  | 2 => ("CoatedBridges$State", "settings", "[I", true)
  | 3 => ("CoatedBridges$State", "complaintBook", "LCoatedBridges$Book;", true)
  | 4 => ("CoatedBridges$State", "islandCount", "I", false)
  | 5 => ("CoatedBridges$State", "bridgeCount", "I", false)
  | 6 => ("CoatedBridges$State", "now", "I", false)
  | 7 => ("CoatedBridges$State", "purse", "I", false)
  | 8 => ("CoatedBridges$State", "paintCoins", "I", false)
  | 9 => ("CoatedBridges$State", "ferryCoins", "I", false)
  | _ => ("CoatedBridges$State", "comeCoins", "I", false)
def tyX3 : Nat → FieldType := fun k => match k with
  | 0 => .array (.object "CoatedBridges$Island")
  | 1 => .array (.object "CoatedBridges$Bridge")
  | 2 => .array .int
  | 3 => .object "CoatedBridges$Book"
  | 4 => .int
  | 5 => .int
  | 6 => .int
  | 7 => .int
  | 8 => .int
  | 9 => .int
  | _ => .int
theorem nmX3 : ∀ a, a < 11 → ∀ b, b < 11 → a ≠ b → (TX3 a).2.1 ≠ (TX3 b).2.1 := by decide +kernel
theorem tyX3_ok : ∀ k, k < 11 → parseFieldDescriptor (TX3 k).2.2.1 = some (tyX3 k) := by decide +kernel
def RX4 : String := "CoatedBridges$Text"
def TX4 : u_T := fun k => match k with
  | 0 => ("CoatedBridges$Text", "characters", "[C", true)
  | 1 => ("CoatedBridges$Text", "length", "I", false)
  | 2 => ("CoatedBridges$Text", "numbers", "[I", true)
  | 3 => ("CoatedBridges$Text", "kind", "C", false)
  | _ => ("CoatedBridges$Text", "at", "I", false)
def tyX4 : Nat → FieldType := fun k => match k with
  | 0 => .array .char
  | 1 => .int
  | 2 => .array .int
  | 3 => .char
  | _ => .int
theorem nmX4 : ∀ a, a < 5 → ∀ b, b < 5 → a ≠ b → (TX4 a).2.1 ≠ (TX4 b).2.1 := by decide +kernel
theorem tyX4_ok : ∀ k, k < 5 → parseFieldDescriptor (TX4 k).2.2.1 = some (tyX4 k) := by decide +kernel
def RX5 : String := "CoatedBridges"
def TX5 : u_T := fun k => match k with
  | 0 => ("CoatedBridges", "state", "LCoatedBridges$State;", false)
  | 1 => ("CoatedBridges", "trial", "LCoatedBridges$State;", false)
  | 2 => ("CoatedBridges", "history", "[LCoatedBridges$State;", true)
  | 3 => ("CoatedBridges", "historyLength", "I", false)
  | 4 => ("CoatedBridges", "text", "LCoatedBridges$Text;", true)
  | 5 => ("CoatedBridges", "faultPosition", "I", false)
  | 6 => ("CoatedBridges", "faultReason", "I", false)
  | _ => ("CoatedBridges", "faultCause", "I", false)
def tyX5 : Nat → FieldType := fun k => match k with
  | 0 => .object "CoatedBridges$State"
  | 1 => .object "CoatedBridges$State"
  | 2 => .array (.object "CoatedBridges$State")
  | 3 => .int
  | 4 => .object "CoatedBridges$Text"
  | 5 => .int
  | 6 => .int
  | _ => .int
theorem nmX5 : ∀ a, a < 8 → ∀ b, b < 8 → a ≠ b → (TX5 a).2.1 ≠ (TX5 b).2.1 := by decide +kernel
theorem tyX5_ok : ∀ k, k < 8 → parseFieldDescriptor (TX5 k).2.2.1 = some (tyX5 k) := by decide +kernel
abbrev AEnt : Type := Nat × Instr × Nat × Nat
def rN (o : Nat) : String := match o with
  | 0 => "CoatedBridges$Book"
  | 1 => "CoatedBridges$Bridge"
  | 2 => "CoatedBridges$Island"
  | 3 => "CoatedBridges$State"
  | 4 => "CoatedBridges$Text"
  | 5 => "CoatedBridges"
  | 6 => "CoatedBridgesLaw"
  | 7 => "java/lang/Integer"
  | 8 => "java/lang/Math"
  | _ => "java/lang/Float"
def nFl (ci : Nat) : Nat := match ci with
  | 0 => 3
  | 1 => 9
  | 2 => 5
  | 3 => 11
  | 4 => 5
  | 5 => 8
  | _ => 0
def fTy (ci k : Nat) : Nat := match ci with
  | 0 => (match k with
    | 0 => 3
    | 1 => 3
    | 2 => 0
    | _ => 0)
  | 1 => (match k with
    | 0 => 0
    | 1 => 0
    | 2 => 0
    | 3 => 0
    | 4 => 0
    | 5 => 0
    | 6 => 0
    | 7 => 0
    | 8 => 0
    | _ => 0)
  | 2 => (match k with
    | 0 => 0
    | 1 => 0
    | 2 => 0
    | 3 => 0
    | 4 => 0
    | _ => 0)
  | 3 => (match k with
    | 0 => 3
    | 1 => 3
    | 2 => 3
    | 3 => 3
    | 4 => 0
    | 5 => 0
    | 6 => 0
    | 7 => 0
    | 8 => 0
    | 9 => 0
    | 10 => 0
    | _ => 0)
  | 4 => (match k with
    | 0 => 3
    | 1 => 0
    | 2 => 3
    | 3 => 2
    | 4 => 0
    | _ => 0)
  | 5 => (match k with
    | 0 => 3
    | 1 => 3
    | 2 => 3
    | 3 => 0
    | 4 => 3
    | 5 => 0
    | 6 => 0
    | 7 => 0
    | _ => 0)
  | _ => 0
def cTT (ci : Nat) : u_T := match ci with
  | 0 => TX0
  | 1 => TX1
  | 2 => TX2
  | 3 => TX3
  | 4 => TX4
  | _ => TX5
def cTy (ci : Nat) : Nat → FieldType := match ci with
  | 0 => tyX0
  | 1 => tyX1
  | 2 => tyX2
  | 3 => tyX3
  | 4 => tyX4
  | _ => tyX5
abbrev clz : List vw_C := [(RX0, TX0, 3), (RX1, TX1, 9), (RX2, TX2, 5), (RX3, TX3, 11), (RX4, TX4, 5), (RX5, TX5, 8)]
/-- the class of the objects in an array of references, by the array's kind -/
def aCl (k : Nat) : Nat := match k with
  | 13 => 2
  | 14 => 1
  | _ => 3
-- 0 CoatedBridges$Book.<init>()V
def pg0 : List AEnt := [(0, .aload 0, 1, 99), (1, .nop, 4, 99), (4, .aload 0, 5, 99), (5, .iconst (8), 7, 99), (7, .newarray .int, 9, 99), (9, .putfield 0, 12, 99), (12, .aload 0, 13, 99), (13, .iconst (8), 15, 99), (15, .newarray .int, 17, 99), (17, .putfield 1, 20, 99), (20, .return_, 21, 99)]
def ac0 : List Instr := [.aload_n 0, .invokespecial 3, .aload_n 0, .bipush 8, .newarray .int, .putfield 9, .aload_n 0, .bipush 8, .newarray .int, .putfield 15, .return_]
-- 1 CoatedBridges$Book.copyFrom(LCoatedBridges$Book;)V
def pg1 : List AEnt := [(0, .aload 0, 1, 99), (1, .aload 1, 2, 99), (2, .getfield 2, 5, 99), (5, .putfield 2, 8, 99), (8, .iconst (0), 9, 99), (9, .istore 2, 10, 99), (10, .iload 2, 11, 3), (11, .iconst (8), 13, 99), (13, .if_icmp .ge 46, 16, 99), (16, .aload 0, 17, 99), (17, .getfield 0, 20, 99), (20, .iload 2, 21, 99), (21, .aload 1, 22, 99), (22, .getfield 0, 25, 99), (25, .iload 2, 26, 99), (26, .iaload, 27, 99), (27, .iastore, 28, 99), (28, .aload 0, 29, 99), (29, .getfield 1, 32, 99), (32, .iload 2, 33, 99), (33, .aload 1, 34, 99), (34, .getfield 1, 37, 99), (37, .iload 2, 38, 99), (38, .iaload, 39, 99), (39, .iastore, 40, 99), (40, .iinc 2 (1), 43, 99), (43, .goto 10, 46, 99), (46, .return_, 47, 99)]
def ac1 : List Instr := [.aload_n 0, .aload_n 1, .getfield 18, .putfield 18, .iconst 0, .istore_n 2, .iload_n 2, .bipush 8, .if_icmp .ge 33, .aload_n 0, .getfield 9, .iload_n 2, .aload_n 1, .getfield 9, .iload_n 2, .iaload, .iastore, .aload_n 0, .getfield 15, .iload_n 2, .aload_n 1, .getfield 15, .iload_n 2, .iaload, .iastore, .iinc 2 1, .goto (-33), .return_]
-- 2 CoatedBridges$Book.note(II)V
def pg2 : List AEnt := [(0, .aload 0, 1, 99), (1, .getfield 2, 4, 99), (4, .iconst (8), 6, 99), (6, .if_icmp .lt 13, 9, 99), (9, .aload 0, 10, 99), (10, .invokevirtual 3, 13, 99), (13, .aload 0, 14, 99), (14, .getfield 0, 17, 99), (17, .aload 0, 18, 99), (18, .getfield 2, 21, 99), (21, .iload 1, 22, 99), (22, .iastore, 23, 99), (23, .aload 0, 24, 99), (24, .getfield 1, 27, 99), (27, .aload 0, 28, 99), (28, .getfield 2, 31, 99), (31, .iload 2, 32, 99), (32, .iastore, 33, 99), (33, .aload 0, 34, 99), (34, .dup, 35, 99), (35, .getfield 2, 38, 99), (38, .iconst (1), 39, 99), (39, .iadd, 40, 99), (40, .putfield 2, 43, 99), (43, .return_, 44, 99)]
def ac2 : List Instr := [.aload_n 0, .getfield 18, .bipush 8, .if_icmp .lt 7, .aload_n 0, .invokevirtual 22, .aload_n 0, .getfield 9, .aload_n 0, .getfield 18, .iload_n 1, .iastore, .aload_n 0, .getfield 15, .aload_n 0, .getfield 18, .iload_n 2, .iastore, .aload_n 0, .dup, .getfield 18, .iconst 1, .iadd, .putfield 18, .return_]
-- 3 CoatedBridges$Book.dropFirst()V
def pg3 : List AEnt := [(0, .iconst (1), 1, 99), (1, .istore 1, 2, 99), (2, .iload 1, 3, 2), (3, .iconst (8), 5, 99), (5, .if_icmp .ge 42, 8, 99), (8, .aload 0, 9, 99), (9, .getfield 0, 12, 99), (12, .iload 1, 13, 99), (13, .iconst (1), 14, 99), (14, .isub, 15, 99), (15, .aload 0, 16, 99), (16, .getfield 0, 19, 99), (19, .iload 1, 20, 99), (20, .iaload, 21, 99), (21, .iastore, 22, 99), (22, .aload 0, 23, 99), (23, .getfield 1, 26, 99), (26, .iload 1, 27, 99), (27, .iconst (1), 28, 99), (28, .isub, 29, 99), (29, .aload 0, 30, 99), (30, .getfield 1, 33, 99), (33, .iload 1, 34, 99), (34, .iaload, 35, 99), (35, .iastore, 36, 99), (36, .iinc 1 (1), 39, 99), (39, .goto 2, 42, 99), (42, .aload 0, 43, 99), (43, .iconst (7), 45, 99), (45, .putfield 2, 48, 99), (48, .return_, 49, 99)]
def ac3 : List Instr := [.iconst 1, .istore_n 1, .iload_n 1, .bipush 8, .if_icmp .ge 37, .aload_n 0, .getfield 9, .iload_n 1, .iconst 1, .isub, .aload_n 0, .getfield 9, .iload_n 1, .iaload, .iastore, .aload_n 0, .getfield 15, .iload_n 1, .iconst 1, .isub, .aload_n 0, .getfield 15, .iload_n 1, .iaload, .iastore, .iinc 1 1, .goto (-37), .aload_n 0, .bipush 7, .putfield 18, .return_]
-- 4 CoatedBridges$Book.dayAgo(I)I
def pg4 : List AEnt := [(0, .iload 1, 1, 99), (1, .aload 0, 2, 99), (2, .getfield 2, 5, 99), (5, .if_icmp .ge 24, 8, 99), (8, .aload 0, 9, 99), (9, .getfield 0, 12, 99), (12, .aload 0, 13, 99), (13, .getfield 2, 16, 99), (16, .iconst (1), 17, 99), (17, .isub, 18, 99), (18, .iload 1, 19, 99), (19, .isub, 20, 99), (20, .iaload, 21, 99), (21, .goto 26, 24, 99), (24, .iconst (-1000004), 26, 99), (26, .ireturn, 27, 99)]
def ac4 : List Instr := [.iload_n 1, .aload_n 0, .getfield 18, .if_icmp .ge 19, .aload_n 0, .getfield 9, .aload_n 0, .getfield 18, .iconst 1, .isub, .iload_n 1, .isub, .iaload, .goto 5, .ldc 25, .ireturn]
-- 5 CoatedBridges$Book.complaintsAgo(I)I
def pg5 : List AEnt := [(0, .iload 1, 1, 99), (1, .aload 0, 2, 99), (2, .getfield 2, 5, 99), (5, .if_icmp .ge 24, 8, 99), (8, .aload 0, 9, 99), (9, .getfield 1, 12, 99), (12, .aload 0, 13, 99), (13, .getfield 2, 16, 99), (16, .iconst (1), 17, 99), (17, .isub, 18, 99), (18, .iload 1, 19, 99), (19, .isub, 20, 99), (20, .iaload, 21, 99), (21, .goto 26, 24, 99), (24, .iconst (-1000004), 26, 99), (26, .ireturn, 27, 99)]
def ac5 : List Instr := [.iload_n 1, .aload_n 0, .getfield 18, .if_icmp .ge 19, .aload_n 0, .getfield 15, .aload_n 0, .getfield 18, .iconst 1, .isub, .iload_n 1, .isub, .iaload, .goto 5, .ldc 25, .ireturn]
-- 6 CoatedBridges$Bridge.<init>()V
def pg6 : List AEnt := [(0, .aload 0, 1, 99), (1, .nop, 4, 99), (4, .return_, 5, 99)]
def ac6 : List Instr := [.aload_n 0, .invokespecial 3, .return_]
-- 7 CoatedBridges$Bridge.begin(III)V
def pg7 : List AEnt := [(0, .aload 0, 1, 99), (1, .iload 1, 2, 99), (2, .putfield 100, 5, 99), (5, .aload 0, 6, 99), (6, .iload 2, 7, 99), (7, .putfield 101, 10, 99), (10, .aload 0, 11, 99), (11, .iconst (1), 12, 99), (12, .iload 1, 13, 99), (13, .ishl, 14, 99), (14, .iconst (1), 15, 99), (15, .iload 2, 16, 99), (16, .ishl, 17, 99), (17, .ior, 18, 99), (18, .putfield 102, 21, 99), (21, .aload 0, 22, 99), (22, .iload 3, 23, 99), (23, .putfield 103, 26, 99), (26, .aload 0, 27, 99), (27, .iconst (100), 29, 99), (29, .putfield 104, 32, 99), (32, .aload 0, 33, 99), (33, .iconst (0), 34, 99), (34, .putfield 105, 37, 99), (37, .aload 0, 38, 99), (38, .iconst (0), 39, 99), (39, .putfield 106, 42, 99), (42, .aload 0, 43, 99), (43, .iconst (0), 44, 99), (44, .putfield 107, 47, 99), (47, .aload 0, 48, 99), (48, .iconst (0), 49, 99), (49, .putfield 108, 52, 99), (52, .return_, 53, 99)]
def ac7 : List Instr := [.aload_n 0, .iload_n 1, .putfield 9, .aload_n 0, .iload_n 2, .putfield 15, .aload_n 0, .iconst 1, .iload_n 1, .ishl, .iconst 1, .iload_n 2, .ishl, .ior, .putfield 18, .aload_n 0, .iload_n 3, .putfield 21, .aload_n 0, .bipush 100, .putfield 24, .aload_n 0, .iconst 0, .putfield 27, .aload_n 0, .iconst 0, .putfield 30, .aload_n 0, .iconst 0, .putfield 33, .aload_n 0, .iconst 0, .putfield 36, .return_]
-- 8 CoatedBridges$Bridge.copyFrom(LCoatedBridges$Bridge;)V
def pg8 : List AEnt := [(0, .aload 0, 1, 99), (1, .aload 1, 2, 99), (2, .getfield 100, 5, 99), (5, .putfield 100, 8, 99), (8, .aload 0, 9, 99), (9, .aload 1, 10, 99), (10, .getfield 101, 13, 99), (13, .putfield 101, 16, 99), (16, .aload 0, 17, 99), (17, .aload 1, 18, 99), (18, .getfield 102, 21, 99), (21, .putfield 102, 24, 99), (24, .aload 0, 25, 99), (25, .aload 1, 26, 99), (26, .getfield 103, 29, 99), (29, .putfield 103, 32, 99), (32, .aload 0, 33, 99), (33, .aload 1, 34, 99), (34, .getfield 104, 37, 99), (37, .putfield 104, 40, 99), (40, .aload 0, 41, 99), (41, .aload 1, 42, 99), (42, .getfield 105, 45, 99), (45, .putfield 105, 48, 99), (48, .aload 0, 49, 99), (49, .aload 1, 50, 99), (50, .getfield 106, 53, 99), (53, .putfield 106, 56, 99), (56, .aload 0, 57, 99), (57, .aload 1, 58, 99), (58, .getfield 107, 61, 99), (61, .putfield 107, 64, 99), (64, .aload 0, 65, 99), (65, .aload 1, 66, 99), (66, .getfield 108, 69, 99), (69, .putfield 108, 72, 99), (72, .return_, 73, 99)]
def ac8 : List Instr := [.aload_n 0, .aload_n 1, .getfield 9, .putfield 9, .aload_n 0, .aload_n 1, .getfield 15, .putfield 15, .aload_n 0, .aload_n 1, .getfield 18, .putfield 18, .aload_n 0, .aload_n 1, .getfield 21, .putfield 21, .aload_n 0, .aload_n 1, .getfield 24, .putfield 24, .aload_n 0, .aload_n 1, .getfield 27, .putfield 27, .aload_n 0, .aload_n 1, .getfield 30, .putfield 30, .aload_n 0, .aload_n 1, .getfield 33, .putfield 33, .aload_n 0, .aload_n 1, .getfield 36, .putfield 36, .return_]
-- 9 CoatedBridges$Bridge.takeCrew()V
def pg9 : List AEnt := [(0, .aload 0, 1, 99), (1, .iconst (1), 2, 99), (2, .putfield 105, 5, 99), (5, .aload 0, 6, 99), (6, .dup, 7, 99), (7, .getfield 106, 10, 99), (10, .iconst (1), 11, 99), (11, .iadd, 12, 99), (12, .putfield 106, 15, 99), (15, .return_, 16, 99)]
def ac9 : List Instr := [.aload_n 0, .iconst 1, .putfield 27, .aload_n 0, .dup, .getfield 30, .iconst 1, .iadd, .putfield 30, .return_]
-- 10 CoatedBridges$Bridge.loseCrew()V
def pg10 : List AEnt := [(0, .aload 0, 1, 99), (1, .aload 0, 2, 99), (2, .getfield 104, 5, 99), (5, .ifCond .ne 12, 8, 99), (8, .iconst (2), 9, 99), (9, .goto 13, 12, 99), (12, .iconst (0), 13, 99), (13, .putfield 105, 16, 99), (16, .return_, 17, 99)]
def ac10 : List Instr := [.aload_n 0, .aload_n 0, .getfield 24, .ifCond .ne 7, .iconst 2, .goto 4, .iconst 0, .putfield 27, .return_]
-- 11 CoatedBridges$Bridge.paint(II)V
def pg11 : List AEnt := [(0, .aload 0, 1, 99), (1, .dup, 2, 99), (2, .getfield 108, 5, 99), (5, .iload 2, 6, 99), (6, .iadd, 7, 99), (7, .putfield 108, 10, 99), (10, .aload 0, 11, 99), (11, .aload 0, 12, 99), (12, .getfield 104, 15, 99), (15, .iload 1, 16, 99), (16, .iadd, 17, 99), (17, .iconst (100), 19, 99), (19, .invokestatic 94, 22, 99), (22, .putfield 104, 25, 99), (25, .aload 0, 26, 99), (26, .getfield 104, 29, 99), (29, .iconst (100), 31, 99), (31, .if_icmp .ne 38, 34, 99), (34, .aload 0, 35, 99), (35, .invokevirtual 10, 38, 99), (38, .return_, 39, 99)]
def ac11 : List Instr := [.aload_n 0, .dup, .getfield 36, .iload_n 2, .iadd, .putfield 36, .aload_n 0, .aload_n 0, .getfield 24, .iload_n 1, .iadd, .bipush 100, .invokestatic 39, .putfield 24, .aload_n 0, .getfield 24, .bipush 100, .if_icmp .ne 7, .aload_n 0, .invokevirtual 45, .return_]
-- 12 CoatedBridges$Bridge.wearOff()V
def pg12 : List AEnt := [(0, .aload 0, 1, 99), (1, .aload 0, 2, 99), (2, .getfield 104, 5, 99), (5, .aload 0, 6, 99), (6, .getfield 103, 9, 99), (9, .isub, 10, 99), (10, .iconst (0), 11, 99), (11, .invokestatic 93, 14, 99), (14, .putfield 104, 17, 99), (17, .aload 0, 18, 99), (18, .getfield 104, 21, 99), (21, .ifCond .ne 29, 24, 99), (24, .aload 0, 25, 99), (25, .iconst (2), 26, 99), (26, .putfield 105, 29, 99), (29, .return_, 30, 99)]
def ac12 : List Instr := [.aload_n 0, .aload_n 0, .getfield 24, .aload_n 0, .getfield 21, .isub, .iconst 0, .invokestatic 48, .putfield 24, .aload_n 0, .getfield 24, .ifCond .ne 8, .aload_n 0, .iconst 2, .putfield 27, .return_]
-- 13 CoatedBridges$Bridge.daysUntilRusted()I
def pg13 : List AEnt := [(0, .iconst (0), 1, 99), (1, .istore 1, 2, 99), (2, .iload 1, 3, 2), (3, .iconst (100), 5, 99), (5, .if_icmp .ge 27, 8, 99), (8, .iload 1, 9, 99), (9, .aload 0, 10, 99), (10, .getfield 103, 13, 99), (13, .imul, 14, 99), (14, .aload 0, 15, 99), (15, .getfield 104, 18, 99), (18, .if_icmp .ge 27, 21, 99), (21, .iinc 1 (1), 24, 99), (24, .goto 2, 27, 99), (27, .iload 1, 28, 99), (28, .ireturn, 29, 99)]
def ac13 : List Instr := [.iconst 0, .istore_n 1, .iload_n 1, .bipush 100, .if_icmp .ge 22, .iload_n 1, .aload_n 0, .getfield 21, .imul, .aload_n 0, .getfield 24, .if_icmp .ge 9, .iinc 1 1, .goto (-22), .iload_n 1, .ireturn]
-- 14 CoatedBridges$Island.<init>()V
def pg14 : List AEnt := [(0, .aload 0, 1, 99), (1, .nop, 4, 99), (4, .return_, 5, 99)]
def ac14 : List Instr := [.aload_n 0, .invokespecial 1, .return_]
-- 15 CoatedBridges$Island.begin(I)V
def pg15 : List AEnt := [(0, .aload 0, 1, 99), (1, .iload 1, 2, 99), (2, .putfield 200, 5, 99), (5, .aload 0, 6, 99), (6, .iconst (0), 7, 99), (7, .putfield 201, 10, 99), (10, .aload 0, 11, 99), (11, .iconst (0), 12, 99), (12, .putfield 202, 15, 99), (15, .aload 0, 16, 99), (16, .iconst (0), 17, 99), (17, .putfield 203, 20, 99), (20, .aload 0, 21, 99), (21, .iconst (0), 22, 99), (22, .putfield 204, 25, 99), (25, .return_, 26, 99)]
def ac15 : List Instr := [.aload_n 0, .iload_n 1, .putfield 7, .aload_n 0, .iconst 0, .putfield 13, .aload_n 0, .iconst 0, .putfield 16, .aload_n 0, .iconst 0, .putfield 19, .aload_n 0, .iconst 0, .putfield 22, .return_]
-- 16 CoatedBridges$Island.copyFrom(LCoatedBridges$Island;)V
def pg16 : List AEnt := [(0, .aload 0, 1, 99), (1, .aload 1, 2, 99), (2, .getfield 200, 5, 99), (5, .putfield 200, 8, 99), (8, .aload 0, 9, 99), (9, .aload 1, 10, 99), (10, .getfield 201, 13, 99), (13, .putfield 201, 16, 99), (16, .aload 0, 17, 99), (17, .aload 1, 18, 99), (18, .getfield 202, 21, 99), (21, .putfield 202, 24, 99), (24, .aload 0, 25, 99), (25, .aload 1, 26, 99), (26, .getfield 203, 29, 99), (29, .putfield 203, 32, 99), (32, .aload 0, 33, 99), (33, .aload 1, 34, 99), (34, .getfield 204, 37, 99), (37, .putfield 204, 40, 99), (40, .return_, 41, 99)]
def ac16 : List Instr := [.aload_n 0, .aload_n 1, .getfield 7, .putfield 7, .aload_n 0, .aload_n 1, .getfield 13, .putfield 13, .aload_n 0, .aload_n 1, .getfield 16, .putfield 16, .aload_n 0, .aload_n 1, .getfield 19, .putfield 19, .aload_n 0, .aload_n 1, .getfield 22, .putfield 22, .return_]
-- 17 CoatedBridges$Island.waitAlone(I)Z
def pg17 : List AEnt := [(0, .aload 0, 1, 99), (1, .dup, 2, 99), (2, .getfield 201, 5, 99), (5, .iconst (1), 6, 99), (6, .iadd, 7, 99), (7, .putfield 201, 10, 99), (10, .aload 0, 11, 99), (11, .aload 0, 12, 99), (12, .getfield 202, 15, 99), (15, .aload 0, 16, 99), (16, .getfield 201, 19, 99), (19, .invokestatic 93, 22, 99), (22, .putfield 202, 25, 99), (25, .aload 0, 26, 99), (26, .getfield 201, 29, 99), (29, .iload 1, 30, 99), (30, .if_icmp .gt 35, 33, 99), (33, .iconst (0), 34, 99), (34, .freturn, 35, 99), (35, .aload 0, 36, 99), (36, .dup, 37, 99), (37, .getfield 203, 40, 99), (40, .iconst (1), 41, 99), (41, .iadd, 42, 99), (42, .putfield 203, 45, 99), (45, .iconst (1), 46, 99), (46, .freturn, 47, 99)]
def ac17 : List Instr := [.aload_n 0, .dup, .getfield 13, .iconst 1, .iadd, .putfield 13, .aload_n 0, .aload_n 0, .getfield 16, .aload_n 0, .getfield 13, .invokestatic 25, .putfield 16, .aload_n 0, .getfield 13, .iload_n 1, .if_icmp .gt 5, .iconst 0, .ireturn, .aload_n 0, .dup, .getfield 19, .iconst 1, .iadd, .putfield 19, .iconst 1, .ireturn]
-- 18 CoatedBridges$State.<init>()V
def pg18_0 : List AEnt := [(0, .aload 0, 1, 99), (1, .nop, 4, 99), (4, .aload 0, 5, 99), (5, .iconst (8), 7, 99), (7, .anewarray 13, 10, 99), (10, .putfield 300, 13, 99), (13, .aload 0, 14, 99), (14, .iconst (14), 16, 99), (16, .anewarray 14, 19, 99), (19, .putfield 301, 22, 99), (22, .aload 0, 23, 99), (23, .getstatic 0, 26, 99), (26, .invokedynamic 0, 29, 99), (29, .checkcast 0, 32, 99), (32, .putfield 302, 35, 99), (35, .aload 0, 36, 99), (36, .new 0, 39, 99), (39, .dup, 40, 99), (40, .invokevirtual 0, 43, 99), (43, .putfield 303, 46, 99), (46, .aload 0, 47, 99), (47, .iconst (1), 48, 99), (48, .putfield 304, 51, 99), (51, .aload 0, 52, 99), (52, .iconst (200), 55, 99), (55, .putfield 307, 58, 99), (58, .iconst (0), 59, 99), (59, .istore 1, 60, 99), (60, .iload 1, 61, 2), (61, .iconst (8), 63, 99), (63, .if_icmp .ge 85, 66, 99), (66, .aload 0, 67, 99), (67, .getfield 300, 70, 99), (70, .iload 1, 71, 99), (71, .new 2, 74, 99), (74, .dup, 75, 99), (75, .invokevirtual 14, 78, 99), (78, .multianewarray 13 0, 79, 99), (79, .iinc 1 (1), 82, 99), (82, .goto 60, 85, 99)]
def pg18_1 : List AEnt := [(85, .iconst (0), 86, 99), (86, .istore 1, 87, 99), (87, .iload 1, 88, 2), (88, .iconst (14), 90, 99), (90, .if_icmp .ge 112, 93, 99), (93, .aload 0, 94, 99), (94, .getfield 301, 97, 99), (97, .iload 1, 98, 99), (98, .new 1, 101, 99), (101, .dup, 102, 99), (102, .invokevirtual 6, 105, 99), (105, .multianewarray 14 0, 106, 99), (106, .iinc 1 (1), 109, 99), (109, .goto 87, 112, 99), (112, .return_, 113, 99)]
def pg18 : List AEnt := pg18_0 ++ (pg18_1)
def ac18_0 : List Instr := [.aload_n 0, .invokespecial 3, .aload_n 0, .bipush 8, .anewarray 9, .putfield 11, .aload_n 0, .bipush 14, .anewarray 17, .putfield 19, .aload_n 0, .getstatic 23, .invokevirtual 27, .checkcast 28, .putfield 32, .aload_n 0, .new 35, .dup, .invokespecial 37, .putfield 38, .aload_n 0, .iconst 1, .putfield 42, .aload_n 0, .sipush 200, .putfield 46, .iconst 0, .istore_n 1, .iload_n 1, .bipush 8, .if_icmp .ge 22, .aload_n 0, .getfield 11, .iload_n 1, .new 9, .dup, .invokespecial 49, .aastore, .iinc 1 1, .goto (-22)]
def ac18_1 : List Instr := [.iconst 0, .istore_n 1, .iload_n 1, .bipush 14, .if_icmp .ge 22, .aload_n 0, .getfield 19, .iload_n 1, .new 17, .dup, .invokespecial 50, .aastore, .iinc 1 1, .goto (-22), .return_]
def ac18 : List Instr := ac18_0 ++ (ac18_1)
-- 19 CoatedBridges$State.copyFrom(LCoatedBridges$State;)V
def pg19_0 : List AEnt := [(0, .aload 0, 1, 99), (1, .aload 1, 2, 99), (2, .getfield 304, 5, 99), (5, .putfield 304, 8, 99), (8, .iconst (0), 9, 99), (9, .istore 2, 10, 99), (10, .iload 2, 11, 3), (11, .aload 0, 12, 99), (12, .getfield 304, 15, 99), (15, .if_icmp .ge 39, 18, 99), (18, .aload 0, 19, 99), (19, .getfield 300, 22, 99), (22, .iload 2, 23, 99), (23, .instanceof 13, 24, 99), (24, .aload 1, 25, 99), (25, .getfield 300, 28, 99), (28, .iload 2, 29, 99), (29, .instanceof 13, 30, 99), (30, .invokevirtual 16, 33, 99), (33, .iinc 2 (1), 36, 99), (36, .goto 10, 39, 99), (39, .aload 0, 40, 99), (40, .aload 1, 41, 99), (41, .getfield 305, 44, 99), (44, .putfield 305, 47, 99), (47, .iconst (0), 48, 99), (48, .istore 2, 49, 99), (49, .iload 2, 50, 3), (50, .aload 0, 51, 99), (51, .getfield 305, 54, 99), (54, .if_icmp .ge 78, 57, 99), (57, .aload 0, 58, 99), (58, .getfield 301, 61, 99), (61, .iload 2, 62, 99), (62, .instanceof 14, 63, 99), (63, .aload 1, 64, 99), (64, .getfield 301, 67, 99), (67, .iload 2, 68, 99), (68, .instanceof 14, 69, 99), (69, .invokevirtual 8, 72, 99)]
def pg19_1 : List AEnt := [(72, .iinc 2 (1), 75, 99), (75, .goto 49, 78, 99), (78, .iconst (0), 79, 99), (79, .istore 2, 80, 99), (80, .iload 2, 81, 3), (81, .iconst (8), 83, 99), (83, .if_icmp .ge 104, 86, 99), (86, .aload 0, 87, 99), (87, .getfield 302, 90, 99), (90, .iload 2, 91, 99), (91, .aload 1, 92, 99), (92, .getfield 302, 95, 99), (95, .iload 2, 96, 99), (96, .iaload, 97, 99), (97, .iastore, 98, 99), (98, .iinc 2 (1), 101, 99), (101, .goto 80, 104, 99), (104, .aload 0, 105, 99), (105, .getfield 303, 108, 99), (108, .aload 1, 109, 99), (109, .getfield 303, 112, 99), (112, .invokevirtual 1, 115, 99), (115, .aload 0, 116, 99), (116, .aload 1, 117, 99), (117, .getfield 306, 120, 99), (120, .putfield 306, 123, 99), (123, .aload 0, 124, 99), (124, .aload 1, 125, 99), (125, .getfield 307, 128, 99), (128, .putfield 307, 131, 99), (131, .aload 0, 132, 99), (132, .aload 1, 133, 99), (133, .getfield 308, 136, 99), (136, .putfield 308, 139, 99), (139, .aload 0, 140, 99), (140, .aload 1, 141, 99), (141, .getfield 309, 144, 99), (144, .putfield 309, 147, 99), (147, .aload 0, 148, 99), (148, .aload 1, 149, 99)]
def pg19_2 : List AEnt := [(149, .getfield 310, 152, 99), (152, .putfield 310, 155, 99), (155, .return_, 156, 99)]
def pg19 : List AEnt := pg19_0 ++ (pg19_1 ++ (pg19_2))
def ac19_0 : List Instr := [.aload_n 0, .aload_n 1, .getfield 42, .putfield 42, .iconst 0, .istore_n 2, .iload_n 2, .aload_n 0, .getfield 42, .if_icmp .ge 24, .aload_n 0, .getfield 11, .iload_n 2, .aaload, .aload_n 1, .getfield 11, .iload_n 2, .aaload, .invokevirtual 51, .iinc 2 1, .goto (-26), .aload_n 0, .aload_n 1, .getfield 55, .putfield 55, .iconst 0, .istore_n 2, .iload_n 2, .aload_n 0, .getfield 55, .if_icmp .ge 24, .aload_n 0, .getfield 19, .iload_n 2, .aaload, .aload_n 1, .getfield 19, .iload_n 2, .aaload, .invokevirtual 58]
def ac19_1 : List Instr := [.iinc 2 1, .goto (-26), .iconst 0, .istore_n 2, .iload_n 2, .bipush 8, .if_icmp .ge 21, .aload_n 0, .getfield 32, .iload_n 2, .aload_n 1, .getfield 32, .iload_n 2, .iaload, .iastore, .iinc 2 1, .goto (-21), .aload_n 0, .getfield 38, .aload_n 1, .getfield 38, .invokevirtual 61, .aload_n 0, .aload_n 1, .getfield 64, .putfield 64, .aload_n 0, .aload_n 1, .getfield 46, .putfield 46, .aload_n 0, .aload_n 1, .getfield 67, .putfield 67, .aload_n 0, .aload_n 1, .getfield 70, .putfield 70, .aload_n 0, .aload_n 1]
def ac19_2 : List Instr := [.getfield 73, .putfield 73, .return_]
def ac19 : List Instr := ac19_0 ++ (ac19_1 ++ (ac19_2))
-- 20 CoatedBridges$State.hasIsland(I)Z
def pg20 : List AEnt := [(0, .iload 1, 1, 99), (1, .ifCond .lt 16, 4, 99), (4, .iload 1, 5, 99), (5, .aload 0, 6, 99), (6, .getfield 304, 9, 99), (9, .if_icmp .ge 16, 12, 99), (12, .iconst (1), 13, 99), (13, .goto 17, 16, 99), (16, .iconst (0), 17, 99), (17, .freturn, 18, 99)]
def ac20 : List Instr := [.iload_n 1, .ifCond .lt 15, .iload_n 1, .aload_n 0, .getfield 42, .if_icmp .ge 7, .iconst 1, .goto 4, .iconst 0, .ireturn]
-- 21 CoatedBridges$State.hasBridge(I)Z
def pg21 : List AEnt := [(0, .iload 1, 1, 99), (1, .ifCond .lt 16, 4, 99), (4, .iload 1, 5, 99), (5, .aload 0, 6, 99), (6, .getfield 305, 9, 99), (9, .if_icmp .ge 16, 12, 99), (12, .iconst (1), 13, 99), (13, .goto 17, 16, 99), (16, .iconst (0), 17, 99), (17, .freturn, 18, 99)]
def ac21 : List Instr := [.iload_n 1, .ifCond .lt 15, .iload_n 1, .aload_n 0, .getfield 55, .if_icmp .ge 7, .iconst 1, .goto 4, .iconst 0, .ireturn]
-- 22 CoatedBridges$State.addIsland(I)I
def pg22 : List AEnt := [(0, .iload 1, 1, 99), (1, .ifCond .lt 10, 4, 99), (4, .iload 1, 5, 99), (5, .iconst (99), 7, 99), (7, .if_icmp .le 13, 10, 99), (10, .iconst (-1000001), 12, 99), (12, .ireturn, 13, 99), (13, .aload 0, 14, 99), (14, .getfield 304, 17, 99), (17, .iconst (8), 19, 99), (19, .if_icmp .lt 25, 22, 99), (22, .iconst (-1000003), 24, 99), (24, .ireturn, 25, 99), (25, .aload 0, 26, 99), (26, .getfield 300, 29, 99), (29, .aload 0, 30, 99), (30, .getfield 304, 33, 99), (33, .instanceof 13, 34, 99), (34, .iload 1, 35, 99), (35, .invokevirtual 15, 38, 99), (38, .aload 0, 39, 99), (39, .dup, 40, 99), (40, .getfield 304, 43, 99), (43, .iconst (1), 44, 99), (44, .iadd, 45, 99), (45, .putfield 304, 48, 99), (48, .aload 0, 49, 99), (49, .getfield 304, 52, 99), (52, .iconst (1), 53, 99), (53, .isub, 54, 99), (54, .ireturn, 55, 99)]
def ac22 : List Instr := [.iload_n 1, .ifCond .lt 9, .iload_n 1, .bipush 99, .if_icmp .le 6, .ldc 76, .ireturn, .aload_n 0, .getfield 42, .bipush 8, .if_icmp .lt 6, .ldc 77, .ireturn, .aload_n 0, .getfield 11, .aload_n 0, .getfield 42, .aaload, .iload_n 1, .invokevirtual 78, .aload_n 0, .dup, .getfield 42, .iconst 1, .iadd, .putfield 42, .aload_n 0, .getfield 42, .iconst 1, .isub, .ireturn]
-- 23 CoatedBridges$State.addBridge(III)I
def pg23_0 : List AEnt := [(0, .aload 0, 1, 99), (1, .iload 1, 2, 99), (2, .invokevirtual 20, 5, 99), (5, .ifCond .eq 32, 8, 99), (8, .aload 0, 9, 99), (9, .iload 2, 10, 99), (10, .invokevirtual 20, 13, 99), (13, .ifCond .eq 32, 16, 99), (16, .iload 1, 17, 99), (17, .iload 2, 18, 99), (18, .if_icmp .eq 32, 21, 99), (21, .iload 3, 22, 99), (22, .iconst (1), 23, 99), (23, .if_icmp .lt 32, 26, 99), (26, .iload 3, 27, 99), (27, .iconst (9), 29, 99), (29, .if_icmp .le 35, 32, 99), (32, .iconst (-1000001), 34, 99), (34, .ireturn, 35, 99), (35, .aload 0, 36, 99), (36, .getfield 305, 39, 99), (39, .iconst (14), 41, 99), (41, .if_icmp .lt 47, 44, 99), (44, .iconst (-1000003), 46, 99), (46, .ireturn, 47, 99), (47, .aload 0, 48, 99), (48, .getfield 301, 51, 99), (51, .aload 0, 52, 99), (52, .getfield 305, 55, 99), (55, .instanceof 14, 56, 99), (56, .iload 1, 57, 99), (57, .iload 2, 58, 99), (58, .iload 3, 59, 99), (59, .invokevirtual 7, 62, 99), (62, .aload 0, 63, 99), (63, .dup, 64, 99), (64, .getfield 305, 67, 99), (67, .iconst (1), 68, 99), (68, .iadd, 69, 99), (69, .putfield 305, 72, 99)]
def pg23_1 : List AEnt := [(72, .aload 0, 73, 99), (73, .getfield 305, 76, 99), (76, .iconst (1), 77, 99), (77, .isub, 78, 99), (78, .ireturn, 79, 99)]
def pg23 : List AEnt := pg23_0 ++ (pg23_1)
def ac23_0 : List Instr := [.aload_n 0, .iload_n 1, .invokevirtual 82, .ifCond .eq 27, .aload_n 0, .iload_n 2, .invokevirtual 82, .ifCond .eq 19, .iload_n 1, .iload_n 2, .if_icmp .eq 14, .iload_n 3, .iconst 1, .if_icmp .lt 9, .iload_n 3, .bipush 9, .if_icmp .le 6, .ldc 76, .ireturn, .aload_n 0, .getfield 55, .bipush 14, .if_icmp .lt 6, .ldc 77, .ireturn, .aload_n 0, .getfield 19, .aload_n 0, .getfield 55, .aaload, .iload_n 1, .iload_n 2, .iload_n 3, .invokevirtual 86, .aload_n 0, .dup, .getfield 55, .iconst 1, .iadd, .putfield 55]
def ac23_1 : List Instr := [.aload_n 0, .getfield 55, .iconst 1, .isub, .ireturn]
def ac23 : List Instr := ac23_0 ++ (ac23_1)
-- 24 CoatedBridges$State.sendCrew(II)I
def pg24_0 : List AEnt := [(0, .aload 0, 1, 99), (1, .iload 1, 2, 99), (2, .invokevirtual 21, 5, 99), (5, .ifCond .eq 17, 8, 99), (8, .iload 2, 9, 99), (9, .ifCond .lt 17, 12, 99), (12, .iload 2, 13, 99), (13, .iconst (1), 14, 99), (14, .if_icmp .le 20, 17, 99), (17, .iconst (-1000001), 19, 99), (19, .ireturn, 20, 99), (20, .aload 0, 21, 99), (21, .iload 1, 22, 99), (22, .invokevirtual 36, 25, 99), (25, .istore 3, 26, 99), (26, .iload 2, 27, 99), (27, .iconst (1), 28, 99), (28, .if_icmp .ne 40, 31, 99), (31, .iload 3, 32, 99), (32, .iconst (4), 33, 99), (33, .if_icmp .ne 40, 36, 99), (36, .iconst (1), 37, 99), (37, .goto 41, 40, 99), (40, .iconst (0), 41, 99), (41, .istore 4, 43, 99), (43, .iload 3, 44, 99), (44, .ifCond .eq 55, 47, 99), (47, .iload 4, 49, 99), (49, .ifCond .ne 55, 52, 99), (52, .iconst (-1000002), 54, 99), (54, .ireturn, 55, 99), (55, .aload 0, 56, 99), (56, .iload 1, 57, 99), (57, .invokevirtual 41, 60, 99), (60, .istore 5, 62, 99), (62, .aload 0, 63, 99), (63, .getfield 301, 66, 99), (66, .iload 1, 67, 99), (67, .instanceof 14, 68, 99), (68, .invokevirtual 9, 71, 99)]
def pg24_1 : List AEnt := [(71, .iload 5, 73, 99), (73, .ireturn, 74, 99)]
def pg24 : List AEnt := pg24_0 ++ (pg24_1)
def ac24_0 : List Instr := [.aload_n 0, .iload_n 1, .invokevirtual 89, .ifCond .eq 12, .iload_n 2, .ifCond .lt 8, .iload_n 2, .iconst 1, .if_icmp .le 6, .ldc 76, .ireturn, .aload_n 0, .iload_n 1, .invokevirtual 92, .istore_n 3, .iload_n 2, .iconst 1, .if_icmp .ne 12, .iload_n 3, .iconst 4, .if_icmp .ne 7, .iconst 1, .goto 4, .iconst 0, .istore 4, .iload_n 3, .ifCond .eq 11, .iload 4, .ifCond .ne 6, .ldc 96, .ireturn, .aload_n 0, .iload_n 1, .invokevirtual 97, .istore 5, .aload_n 0, .getfield 19, .iload_n 1, .aaload, .invokevirtual 100]
def ac24_1 : List Instr := [.iload 5, .ireturn]
def ac24 : List Instr := ac24_0 ++ (ac24_1)
-- 25 CoatedBridges$State.callBack(I)I
def pg25 : List AEnt := [(0, .aload 0, 1, 99), (1, .iload 1, 2, 99), (2, .invokevirtual 21, 5, 99), (5, .ifCond .ne 11, 8, 99), (8, .iconst (-1000001), 10, 99), (10, .ireturn, 11, 99), (11, .aload 0, 12, 99), (12, .getfield 301, 15, 99), (15, .iload 1, 16, 99), (16, .instanceof 14, 17, 99), (17, .getfield 105, 20, 99), (20, .iconst (1), 21, 99), (21, .if_icmp .eq 27, 24, 99), (24, .iconst (-1000002), 26, 99), (26, .ireturn, 27, 99), (27, .aload 0, 28, 99), (28, .getfield 301, 31, 99), (31, .iload 1, 32, 99), (32, .instanceof 14, 33, 99), (33, .invokevirtual 10, 36, 99), (36, .aload 0, 37, 99), (37, .getfield 301, 40, 99), (40, .iload 1, 41, 99), (41, .instanceof 14, 42, 99), (42, .getfield 104, 45, 99), (45, .ireturn, 46, 99)]
def ac25 : List Instr := [.aload_n 0, .iload_n 1, .invokevirtual 89, .ifCond .ne 6, .ldc 76, .ireturn, .aload_n 0, .getfield 19, .iload_n 1, .aaload, .getfield 103, .iconst 1, .if_icmp .eq 6, .ldc 96, .ireturn, .aload_n 0, .getfield 19, .iload_n 1, .aaload, .invokevirtual 106, .aload_n 0, .getfield 19, .iload_n 1, .aaload, .getfield 109, .ireturn]
-- 26 CoatedBridges$State.payIn(I)I
def pg26 : List AEnt := [(0, .iload 1, 1, 99), (1, .iconst (1), 2, 99), (2, .if_icmp .lt 12, 5, 99), (5, .iload 1, 6, 99), (6, .iconst (999), 9, 99), (9, .if_icmp .le 15, 12, 99), (12, .iconst (-1000001), 14, 99), (14, .ireturn, 15, 99), (15, .aload 0, 16, 99), (16, .getfield 307, 19, 99), (19, .iload 1, 20, 99), (20, .iadd, 21, 99), (21, .iconst (999999), 23, 99), (23, .if_icmp .le 29, 26, 99), (26, .iconst (-1000003), 28, 99), (28, .ireturn, 29, 99), (29, .aload 0, 30, 99), (30, .iload 1, 31, 99), (31, .invokevirtual 34, 34, 99), (34, .aload 0, 35, 99), (35, .getfield 307, 38, 99), (38, .ireturn, 39, 99)]
def ac26 : List Instr := [.iload_n 1, .iconst 1, .if_icmp .lt 10, .iload_n 1, .sipush 999, .if_icmp .le 6, .ldc 76, .ireturn, .aload_n 0, .getfield 46, .iload_n 1, .iadd, .ldc 112, .if_icmp .le 6, .ldc 77, .ireturn, .aload_n 0, .iload_n 1, .invokevirtual 113, .aload_n 0, .getfield 46, .ireturn]
-- 27 CoatedBridges$State.changeSetting(II)I
def pg27 : List AEnt := [(0, .iload 1, 1, 99), (1, .ifCond .lt 28, 4, 99), (4, .iload 1, 5, 99), (5, .iconst (8), 7, 99), (7, .if_icmp .ge 28, 10, 99), (10, .iload 2, 11, 99), (11, .getstatic 1, 14, 99), (14, .iload 1, 15, 99), (15, .laload, 16, 99), (16, .if_icmp .lt 28, 19, 99), (19, .iload 2, 20, 99), (20, .getstatic 2, 23, 99), (23, .iload 1, 24, 99), (24, .laload, 25, 99), (25, .if_icmp .le 31, 28, 99), (28, .iconst (-1000001), 30, 99), (30, .ireturn, 31, 99), (31, .aload 0, 32, 99), (32, .getfield 302, 35, 99), (35, .iload 1, 36, 99), (36, .iaload, 37, 99), (37, .istore 3, 38, 99), (38, .aload 0, 39, 99), (39, .getfield 302, 42, 99), (42, .iload 1, 43, 99), (43, .iload 2, 44, 99), (44, .iastore, 45, 99), (45, .iload 3, 46, 99), (46, .ireturn, 47, 99)]
def ac27 : List Instr := [.iload_n 1, .ifCond .lt 27, .iload_n 1, .bipush 8, .if_icmp .ge 21, .iload_n 2, .getstatic 116, .iload_n 1, .iaload, .if_icmp .lt 12, .iload_n 2, .getstatic 119, .iload_n 1, .iaload, .if_icmp .le 6, .ldc 76, .ireturn, .aload_n 0, .getfield 32, .iload_n 1, .iaload, .istore_n 3, .aload_n 0, .getfield 32, .iload_n 1, .iload_n 2, .iastore, .iload_n 3, .ireturn]
-- 28 CoatedBridges$State.endDays(I)I
def pg28 : List AEnt := [(0, .iload 1, 1, 99), (1, .iconst (1), 2, 99), (2, .if_icmp .lt 11, 5, 99), (5, .iload 1, 6, 99), (6, .iconst (99), 8, 99), (8, .if_icmp .le 14, 11, 99), (11, .iconst (-1000001), 13, 99), (13, .ireturn, 14, 99), (14, .aload 0, 15, 99), (15, .getfield 306, 18, 99), (18, .iload 1, 19, 99), (19, .iadd, 20, 99), (20, .iconst (9999), 23, 99), (23, .if_icmp .le 29, 26, 99), (26, .iconst (-1000003), 28, 99), (28, .ireturn, 29, 99), (29, .iconst (0), 30, 99), (30, .istore 2, 31, 99), (31, .iconst (0), 32, 99), (32, .istore 3, 33, 99), (33, .iload 3, 34, 4), (34, .iload 1, 35, 99), (35, .if_icmp .ge 51, 38, 99), (38, .iload 2, 39, 99), (39, .aload 0, 40, 99), (40, .invokevirtual 29, 43, 99), (43, .iadd, 44, 99), (44, .istore 2, 45, 99), (45, .iinc 3 (1), 48, 99), (48, .goto 33, 51, 99), (51, .iload 2, 52, 99), (52, .ireturn, 53, 99)]
def ac28 : List Instr := [.iload_n 1, .iconst 1, .if_icmp .lt 9, .iload_n 1, .bipush 99, .if_icmp .le 6, .ldc 76, .ireturn, .aload_n 0, .getfield 64, .iload_n 1, .iadd, .sipush 9999, .if_icmp .le 6, .ldc 77, .ireturn, .iconst 0, .istore_n 2, .iconst 0, .istore_n 3, .iload_n 3, .iload_n 1, .if_icmp .ge 16, .iload_n 2, .aload_n 0, .invokevirtual 122, .iadd, .istore_n 2, .iinc 3 1, .goto (-15), .iload_n 2, .ireturn]
-- 29 CoatedBridges$State.endDay()I
def pg29_0 : List AEnt := [(0, .aload 0, 1, 99), (1, .iconst (0), 2, 99), (2, .invokevirtual 38, 5, 99), (5, .istore 1, 6, 99), (6, .aload 0, 7, 99), (7, .invokevirtual 30, 10, 99), (10, .aload 0, 11, 99), (11, .iload 1, 12, 99), (12, .invokevirtual 31, 15, 99), (15, .aload 0, 16, 99), (16, .invokevirtual 32, 19, 99), (19, .istore 2, 20, 99), (20, .iload 2, 21, 99), (21, .ifCond .le 36, 24, 99), (24, .aload 0, 25, 99), (25, .getfield 303, 28, 99), (28, .aload 0, 29, 99), (29, .getfield 306, 32, 99), (32, .iload 2, 33, 99), (33, .invokevirtual 2, 36, 99), (36, .aload 0, 37, 99), (37, .dup, 38, 99), (38, .getfield 306, 41, 99), (41, .iconst (1), 42, 99), (42, .iadd, 43, 99), (43, .putfield 306, 46, 99), (46, .aload 0, 47, 99), (47, .aload 0, 48, 99), (48, .getfield 302, 51, 99), (51, .iconst (5), 52, 99), (52, .iaload, 53, 99), (53, .invokevirtual 34, 56, 99), (56, .iconst (0), 57, 99), (57, .istore 3, 58, 99), (58, .iload 3, 59, 4), (59, .iconst (4), 60, 99), (60, .if_icmp .ge 108, 63, 99), (63, .aload 0, 64, 99), (64, .getfield 302, 67, 99), (67, .iconst (6), 69, 99)]
def pg29_1 : List AEnt := [(69, .iaload, 70, 99), (70, .iconst (1), 71, 99), (71, .if_icmp .ne 108, 74, 99), (74, .aload 0, 75, 99), (75, .invokevirtual 37, 78, 99), (78, .istore 4, 80, 99), (80, .aload 0, 81, 99), (81, .iload 4, 83, 99), (83, .invokevirtual 21, 86, 99), (86, .ifCond .ne 92, 89, 99), (89, .goto 108, 92, 99), (92, .aload 0, 93, 99), (93, .getfield 301, 96, 99), (96, .iload 4, 98, 99), (98, .instanceof 14, 99, 99), (99, .invokevirtual 9, 102, 99), (102, .iinc 3 (1), 105, 99), (105, .goto 58, 108, 99), (108, .iload 2, 109, 99), (109, .ireturn, 110, 99)]
def pg29 : List AEnt := pg29_0 ++ (pg29_1)
def ac29_0 : List Instr := [.aload_n 0, .iconst 0, .invokevirtual 126, .istore_n 1, .aload_n 0, .invokevirtual 129, .aload_n 0, .iload_n 1, .invokevirtual 132, .aload_n 0, .invokevirtual 135, .istore_n 2, .iload_n 2, .ifCond .le 15, .aload_n 0, .getfield 38, .aload_n 0, .getfield 64, .iload_n 2, .invokevirtual 138, .aload_n 0, .dup, .getfield 64, .iconst 1, .iadd, .putfield 64, .aload_n 0, .aload_n 0, .getfield 32, .iconst 5, .iaload, .invokevirtual 113, .iconst 0, .istore_n 3, .iload_n 3, .iconst 4, .if_icmp .ge 48, .aload_n 0, .getfield 32, .bipush 6]
def ac29_1 : List Instr := [.iaload, .iconst 1, .if_icmp .ne 37, .aload_n 0, .invokevirtual 142, .istore 4, .aload_n 0, .iload 4, .invokevirtual 89, .ifCond .ne 6, .goto 19, .aload_n 0, .getfield 19, .iload 4, .aaload, .invokevirtual 100, .iinc 3 1, .goto (-47), .iload_n 2, .ireturn]
def ac29 : List Instr := ac29_0 ++ (ac29_1)
-- 30 CoatedBridges$State.paintBridges()V
def pg30_0 : List AEnt := [(0, .aload 0, 1, 99), (1, .getfield 302, 4, 99), (4, .iconst (2), 5, 99), (5, .iaload, 6, 99), (6, .istore 1, 7, 99), (7, .iconst (0), 8, 99), (8, .istore 2, 9, 99), (9, .iload 2, 10, 3), (10, .aload 0, 11, 99), (11, .getfield 305, 14, 99), (14, .if_icmp .ge 80, 17, 99), (17, .aload 0, 18, 99), (18, .getfield 301, 21, 99), (21, .iload 2, 22, 99), (22, .instanceof 14, 23, 99), (23, .getfield 105, 26, 99), (26, .iconst (1), 27, 99), (27, .if_icmp .ne 74, 30, 99), (30, .aload 0, 31, 99), (31, .getfield 307, 34, 99), (34, .iload 1, 35, 99), (35, .if_icmp .lt 74, 38, 99), (38, .aload 0, 39, 99), (39, .dup, 40, 99), (40, .getfield 307, 43, 99), (43, .iload 1, 44, 99), (44, .isub, 45, 99), (45, .putfield 307, 48, 99), (48, .aload 0, 49, 99), (49, .dup, 50, 99), (50, .getfield 308, 53, 99), (53, .iload 1, 54, 99), (54, .iadd, 55, 99), (55, .putfield 308, 58, 99), (58, .aload 0, 59, 99), (59, .getfield 301, 62, 99), (62, .iload 2, 63, 99), (63, .instanceof 14, 64, 99), (64, .aload 0, 65, 99), (65, .getfield 302, 68, 99)]
def pg30_1 : List AEnt := [(68, .iconst (1), 69, 99), (69, .iaload, 70, 99), (70, .iload 1, 71, 99), (71, .invokevirtual 11, 74, 99), (74, .iinc 2 (1), 77, 99), (77, .goto 9, 80, 99), (80, .return_, 81, 99)]
def pg30 : List AEnt := pg30_0 ++ (pg30_1)
def ac30_0 : List Instr := [.aload_n 0, .getfield 32, .iconst 2, .iaload, .istore_n 1, .iconst 0, .istore_n 2, .iload_n 2, .aload_n 0, .getfield 55, .if_icmp .ge 66, .aload_n 0, .getfield 19, .iload_n 2, .aaload, .getfield 103, .iconst 1, .if_icmp .ne 47, .aload_n 0, .getfield 46, .iload_n 1, .if_icmp .lt 39, .aload_n 0, .dup, .getfield 46, .iload_n 1, .isub, .putfield 46, .aload_n 0, .dup, .getfield 67, .iload_n 1, .iadd, .putfield 67, .aload_n 0, .getfield 19, .iload_n 2, .aaload, .aload_n 0, .getfield 32]
def ac30_1 : List Instr := [.iconst 1, .iaload, .iload_n 1, .invokevirtual 145, .iinc 2 1, .goto (-68), .return_]
def ac30 : List Instr := ac30_0 ++ (ac30_1)
-- 31 CoatedBridges$State.wearBridges(I)V
def pg31 : List AEnt := [(0, .iconst (0), 1, 99), (1, .istore 2, 2, 99), (2, .iload 2, 3, 3), (3, .aload 0, 4, 99), (4, .getfield 305, 7, 99), (7, .if_icmp .ge 60, 10, 99), (10, .iload 1, 11, 99), (11, .iload 2, 12, 99), (12, .invokestatic 88, 15, 99), (15, .ifCond .eq 27, 18, 99), (18, .aload 0, 19, 99), (19, .getfield 301, 22, 99), (22, .iload 2, 23, 99), (23, .instanceof 14, 24, 99), (24, .invokevirtual 12, 27, 99), (27, .aload 0, 28, 99), (28, .getfield 301, 31, 99), (31, .iload 2, 32, 99), (32, .instanceof 14, 33, 99), (33, .getfield 105, 36, 99), (36, .ifCond .eq 54, 39, 99), (39, .aload 0, 40, 99), (40, .getfield 301, 43, 99), (43, .iload 2, 44, 99), (44, .instanceof 14, 45, 99), (45, .dup, 46, 99), (46, .getfield 107, 49, 99), (49, .iconst (1), 50, 99), (50, .iadd, 51, 99), (51, .putfield 107, 54, 99), (54, .iinc 2 (1), 57, 99), (57, .goto 2, 60, 99), (60, .return_, 61, 99)]
def ac31 : List Instr := [.iconst 0, .istore_n 2, .iload_n 2, .aload_n 0, .getfield 55, .if_icmp .ge 53, .iload_n 1, .iload_n 2, .invokestatic 148, .ifCond .eq 12, .aload_n 0, .getfield 19, .iload_n 2, .aaload, .invokevirtual 152, .aload_n 0, .getfield 19, .iload_n 2, .aaload, .getfield 103, .ifCond .eq 18, .aload_n 0, .getfield 19, .iload_n 2, .aaload, .dup, .getfield 155, .iconst 1, .iadd, .putfield 155, .iinc 2 1, .goto (-55), .return_]
-- 32 CoatedBridges$State.letIslandsWait()I
def pg32_0 : List AEnt := [(0, .aload 0, 1, 99), (1, .iconst (0), 2, 99), (2, .iconst (-1), 3, 99), (3, .invokevirtual 39, 6, 99), (6, .istore 1, 7, 99), (7, .iconst (0), 8, 99), (8, .istore 2, 9, 99), (9, .iconst (1), 10, 99), (10, .istore 3, 11, 99), (11, .iload 3, 12, 4), (12, .aload 0, 13, 99), (13, .getfield 304, 16, 99), (16, .if_icmp .ge 98, 19, 99), (19, .aload 0, 20, 99), (20, .getfield 300, 23, 99), (23, .iload 3, 24, 99), (24, .instanceof 13, 25, 99), (25, .astore 4, 27, 99), (27, .iload 1, 28, 99), (28, .iload 3, 29, 99), (29, .invokestatic 88, 32, 99), (32, .ifCond .eq 44, 35, 99), (35, .aload 4, 37, 99), (37, .iconst (0), 38, 99), (38, .putfield 201, 41, 99), (41, .goto 92, 44, 99), (44, .aload 0, 45, 99), (45, .getfield 302, 48, 99), (48, .iconst (3), 49, 99), (49, .iaload, 50, 99), (50, .iconst (1), 51, 99), (51, .if_icmp .ne 75, 54, 99), (54, .aload 0, 55, 99), (55, .getfield 307, 58, 99), (58, .aload 4, 60, 99), (60, .getfield 200, 63, 99), (63, .if_icmp .lt 75, 66, 99), (66, .aload 0, 67, 99), (67, .aload 4, 69, 99), (69, .invokevirtual 33, 72, 99)]
def pg32_1 : List AEnt := [(72, .goto 92, 75, 99), (75, .aload 4, 77, 99), (77, .aload 0, 78, 99), (78, .getfield 302, 81, 99), (81, .iconst (4), 82, 99), (82, .iaload, 83, 99), (83, .invokevirtual 17, 86, 99), (86, .ifCond .eq 92, 89, 99), (89, .iinc 2 (1), 92, 99), (92, .iinc 3 (1), 95, 99), (95, .goto 11, 98, 99), (98, .iload 2, 99, 99), (99, .ireturn, 100, 99)]
def pg32 : List AEnt := pg32_0 ++ (pg32_1)
def ac32_0 : List Instr := [.aload_n 0, .iconst 0, .iconst (-1), .invokevirtual 158, .istore_n 1, .iconst 0, .istore_n 2, .iconst 1, .istore_n 3, .iload_n 3, .aload_n 0, .getfield 42, .if_icmp .ge 82, .aload_n 0, .getfield 11, .iload_n 3, .aaload, .astore 4, .iload_n 1, .iload_n 3, .invokestatic 148, .ifCond .eq 12, .aload 4, .iconst 0, .putfield 162, .goto 51, .aload_n 0, .getfield 32, .iconst 3, .iaload, .iconst 1, .if_icmp .ne 24, .aload_n 0, .getfield 46, .aload 4, .getfield 165, .if_icmp .lt 12, .aload_n 0, .aload 4, .invokevirtual 168]
def ac32_1 : List Instr := [.goto 20, .aload 4, .aload_n 0, .getfield 32, .iconst 4, .iaload, .invokevirtual 171, .ifCond .eq 6, .iinc 2 1, .iinc 3 1, .goto (-84), .iload_n 2, .ireturn]
def ac32 : List Instr := ac32_0 ++ (ac32_1)
-- 33 CoatedBridges$State.payFerry(LCoatedBridges$Island;)V
def pg33 : List AEnt := [(0, .aload 0, 1, 99), (1, .dup, 2, 99), (2, .getfield 307, 5, 99), (5, .aload 1, 6, 99), (6, .getfield 200, 9, 99), (9, .isub, 10, 99), (10, .putfield 307, 13, 99), (13, .aload 0, 14, 99), (14, .dup, 15, 99), (15, .getfield 309, 18, 99), (18, .aload 1, 19, 99), (19, .getfield 200, 22, 99), (22, .iadd, 23, 99), (23, .putfield 309, 26, 99), (26, .aload 1, 27, 99), (27, .dup, 28, 99), (28, .getfield 204, 31, 99), (31, .iconst (1), 32, 99), (32, .iadd, 33, 99), (33, .putfield 204, 36, 99), (36, .aload 1, 37, 99), (37, .iconst (0), 38, 99), (38, .putfield 201, 41, 99), (41, .return_, 42, 99)]
def ac33 : List Instr := [.aload_n 0, .dup, .getfield 46, .aload_n 1, .getfield 165, .isub, .putfield 46, .aload_n 0, .dup, .getfield 70, .aload_n 1, .getfield 165, .iadd, .putfield 70, .aload_n 1, .dup, .getfield 174, .iconst 1, .iadd, .putfield 174, .aload_n 1, .iconst 0, .putfield 162, .return_]
-- 34 CoatedBridges$State.receive(I)V
def pg34 : List AEnt := [(0, .aload 0, 1, 99), (1, .dup, 2, 99), (2, .getfield 307, 5, 99), (5, .iload 1, 6, 99), (6, .iadd, 7, 99), (7, .putfield 307, 10, 99), (10, .aload 0, 11, 99), (11, .dup, 12, 99), (12, .getfield 310, 15, 99), (15, .iload 1, 16, 99), (16, .iadd, 17, 99), (17, .putfield 310, 20, 99), (20, .return_, 21, 99)]
def ac34 : List Instr := [.aload_n 0, .dup, .getfield 46, .iload_n 1, .iadd, .putfield 46, .aload_n 0, .dup, .getfield 73, .iload_n 1, .iadd, .putfield 73, .return_]
-- 35 CoatedBridges$State.freeCrews()I
def pg35 : List AEnt := [(0, .iconst (0), 1, 99), (1, .aload 0, 2, 99), (2, .getfield 302, 5, 99), (5, .iconst (0), 6, 99), (6, .iaload, 7, 99), (7, .aload 0, 8, 99), (8, .iconst (1), 9, 99), (9, .invokevirtual 38, 12, 99), (12, .invokestatic 92, 15, 99), (15, .isub, 16, 99), (16, .invokestatic 93, 19, 99), (19, .ireturn, 20, 99)]
def ac35 : List Instr := [.iconst 0, .aload_n 0, .getfield 32, .iconst 0, .iaload, .aload_n 0, .iconst 1, .invokevirtual 126, .invokestatic 177, .isub, .invokestatic 182, .ireturn]
-- 36 CoatedBridges$State.reasonAgainst(I)I
def pg36 : List AEnt := [(0, .aload 0, 1, 99), (1, .getfield 301, 4, 99), (4, .iload 1, 5, 99), (5, .instanceof 14, 6, 99), (6, .getfield 105, 9, 99), (9, .iconst (1), 10, 99), (10, .if_icmp .ne 15, 13, 99), (13, .iconst (1), 14, 99), (14, .ireturn, 15, 99), (15, .aload 0, 16, 99), (16, .getfield 301, 19, 99), (19, .iload 1, 20, 99), (20, .instanceof 14, 21, 99), (21, .getfield 104, 24, 99), (24, .iconst (100), 26, 99), (26, .if_icmp .ne 31, 29, 99), (29, .iconst (2), 30, 99), (30, .ireturn, 31, 99), (31, .aload 0, 32, 99), (32, .invokevirtual 35, 35, 99), (35, .ifCond .ne 40, 38, 99), (38, .iconst (3), 39, 99), (39, .ireturn, 40, 99), (40, .aload 0, 41, 99), (41, .iload 1, 42, 99), (42, .invokevirtual 41, 45, 99), (45, .ifCond .ne 52, 48, 99), (48, .iconst (0), 49, 99), (49, .goto 53, 52, 99), (52, .iconst (4), 53, 99), (53, .ireturn, 54, 99)]
def ac36 : List Instr := [.aload_n 0, .getfield 19, .iload_n 1, .aaload, .getfield 103, .iconst 1, .if_icmp .ne 5, .iconst 1, .ireturn, .aload_n 0, .getfield 19, .iload_n 1, .aaload, .getfield 109, .bipush 100, .if_icmp .ne 5, .iconst 2, .ireturn, .aload_n 0, .invokevirtual 187, .ifCond .ne 5, .iconst 3, .ireturn, .aload_n 0, .iload_n 1, .invokevirtual 97, .ifCond .ne 7, .iconst 0, .goto 4, .iconst 4, .ireturn]
-- 37 CoatedBridges$State.bridgeToPaintNext()I
def pg37_0 : List AEnt := [(0, .aload 0, 1, 99), (1, .invokevirtual 35, 4, 99), (4, .ifCond .ne 10, 7, 99), (7, .iconst (-1000004), 9, 99), (9, .ireturn, 10, 99), (10, .aload 0, 11, 99), (11, .iconst (0), 12, 99), (12, .iconst (-1), 13, 99), (13, .invokevirtual 39, 16, 99), (16, .istore 1, 17, 99), (17, .iconst (-1000004), 19, 99), (19, .istore 2, 20, 99), (20, .aload 0, 21, 99), (21, .getfield 302, 24, 99), (24, .iconst (7), 26, 99), (26, .iaload, 27, 99), (27, .iconst (1), 28, 99), (28, .iadd, 29, 99), (29, .istore 3, 30, 99), (30, .iconst (0), 31, 99), (31, .istore 4, 33, 99), (33, .iload 4, 35, 5), (35, .aload 0, 36, 99), (36, .getfield 305, 39, 99), (39, .if_icmp .ge 95, 42, 99), (42, .aload 0, 43, 99), (43, .getfield 301, 46, 99), (46, .iload 4, 48, 99), (48, .instanceof 14, 49, 99), (49, .astore 5, 51, 99), (51, .aload 5, 53, 99), (53, .getfield 105, 56, 99), (56, .iconst (1), 57, 99), (57, .if_icmp .eq 89, 60, 99), (60, .aload 5, 62, 99), (62, .getfield 104, 65, 99), (65, .iload 3, 66, 99), (66, .if_icmp .ge 89, 69, 99), (69, .aload 0, 70, 99), (70, .iconst (0), 71, 99)]
def pg37_1 : List AEnt := [(71, .iload 4, 73, 99), (73, .invokevirtual 39, 76, 99), (76, .iload 1, 77, 99), (77, .if_icmp .ne 89, 80, 99), (80, .aload 5, 82, 99), (82, .getfield 104, 85, 99), (85, .istore 3, 86, 99), (86, .iload 4, 88, 99), (88, .istore 2, 89, 99), (89, .iinc 4 (1), 92, 99), (92, .goto 33, 95, 99), (95, .iload 2, 96, 99), (96, .ireturn, 97, 99)]
def pg37 : List AEnt := pg37_0 ++ (pg37_1)
def ac37_0 : List Instr := [.aload_n 0, .invokevirtual 187, .ifCond .ne 6, .ldc 190, .ireturn, .aload_n 0, .iconst 0, .iconst (-1), .invokevirtual 158, .istore_n 1, .ldc 190, .istore_n 2, .aload_n 0, .getfield 32, .bipush 7, .iaload, .iconst 1, .iadd, .istore_n 3, .iconst 0, .istore 4, .iload 4, .aload_n 0, .getfield 55, .if_icmp .ge 56, .aload_n 0, .getfield 19, .iload 4, .aaload, .astore 5, .aload 5, .getfield 103, .iconst 1, .if_icmp .eq 32, .aload 5, .getfield 109, .iload_n 3, .if_icmp .ge 23, .aload_n 0, .iconst 0]
def ac37_1 : List Instr := [.iload 4, .invokevirtual 158, .iload_n 1, .if_icmp .ne 12, .aload 5, .getfield 109, .istore_n 3, .iload 4, .istore_n 2, .iinc 4 1, .goto (-59), .iload_n 2, .ireturn]
def ac37 : List Instr := ac37_0 ++ (ac37_1)
-- 38 CoatedBridges$State.bridgesThatAre(I)I
def pg38 : List AEnt := [(0, .iconst (0), 1, 99), (1, .istore 2, 2, 99), (2, .iconst (0), 3, 99), (3, .istore 3, 4, 99), (4, .iload 3, 5, 4), (5, .aload 0, 6, 99), (6, .getfield 305, 9, 99), (9, .if_icmp .ge 37, 12, 99), (12, .aload 0, 13, 99), (13, .getfield 301, 16, 99), (16, .iload 3, 17, 99), (17, .instanceof 14, 18, 99), (18, .getfield 105, 21, 99), (21, .iload 1, 22, 99), (22, .if_icmp .ne 31, 25, 99), (25, .iload 2, 26, 99), (26, .iconst (1), 27, 99), (27, .iload 3, 28, 99), (28, .ishl, 29, 99), (29, .ior, 30, 99), (30, .istore 2, 31, 99), (31, .iinc 3 (1), 34, 99), (34, .goto 4, 37, 99), (37, .iload 2, 38, 99), (38, .ireturn, 39, 99)]
def ac38 : List Instr := [.iconst 0, .istore_n 2, .iconst 0, .istore_n 3, .iload_n 3, .aload_n 0, .getfield 55, .if_icmp .ge 28, .aload_n 0, .getfield 19, .iload_n 3, .aaload, .getfield 103, .iload_n 1, .if_icmp .ne 9, .iload_n 2, .iconst 1, .iload_n 3, .ishl, .ior, .istore_n 2, .iinc 3 1, .goto (-30), .iload_n 2, .ireturn]
-- 39 CoatedBridges$State.reachFrom(II)I
def pg39 : List AEnt := [(0, .iconst (1), 1, 99), (1, .iload 1, 2, 99), (2, .ishl, 3, 99), (3, .istore 3, 4, 99), (4, .iconst (0), 5, 99), (5, .istore 4, 7, 99), (7, .iload 4, 9, 5), (9, .iconst (8), 11, 99), (11, .if_icmp .ge 39, 14, 99), (14, .aload 0, 15, 99), (15, .iload 3, 16, 99), (16, .iload 2, 17, 99), (17, .invokevirtual 40, 20, 99), (20, .istore 5, 22, 99), (22, .iload 5, 24, 99), (24, .iload 3, 25, 99), (25, .if_icmp .ne 30, 28, 99), (28, .iload 3, 29, 99), (29, .ireturn, 30, 99), (30, .iload 5, 32, 99), (32, .istore 3, 33, 99), (33, .iinc 4 (1), 36, 99), (36, .goto 7, 39, 99), (39, .iload 3, 40, 99), (40, .ireturn, 41, 99)]
def ac39 : List Instr := [.iconst 1, .iload_n 1, .ishl, .istore_n 3, .iconst 0, .istore 4, .iload 4, .bipush 8, .if_icmp .ge 28, .aload_n 0, .iload_n 3, .iload_n 2, .invokevirtual 191, .istore 5, .iload 5, .iload_n 3, .if_icmp .ne 5, .iload_n 3, .ireturn, .iload 5, .istore_n 3, .iinc 4 1, .goto (-29), .iload_n 3, .ireturn]
-- 40 CoatedBridges$State.oneBridgeOn(II)I
def pg40 : List AEnt := [(0, .iload 1, 1, 99), (1, .istore 3, 2, 99), (2, .iconst (0), 3, 99), (3, .istore 4, 5, 99), (5, .iload 4, 7, 5), (7, .aload 0, 8, 99), (8, .getfield 305, 11, 99), (11, .if_icmp .ge 61, 14, 99), (14, .aload 0, 15, 99), (15, .getfield 301, 18, 99), (18, .iload 4, 20, 99), (20, .instanceof 14, 21, 99), (21, .astore 5, 23, 99), (23, .aload 5, 25, 99), (25, .getfield 105, 28, 99), (28, .ifCond .ne 55, 31, 99), (31, .iload 4, 33, 99), (33, .iload 2, 34, 99), (34, .if_icmp .eq 55, 37, 99), (37, .iload 1, 38, 99), (38, .aload 5, 40, 99), (40, .getfield 102, 43, 99), (43, .iand, 44, 99), (44, .ifCond .eq 55, 47, 99), (47, .iload 3, 48, 99), (48, .aload 5, 50, 99), (50, .getfield 102, 53, 99), (53, .ior, 54, 99), (54, .istore 3, 55, 99), (55, .iinc 4 (1), 58, 99), (58, .goto 5, 61, 99), (61, .iload 3, 62, 99), (62, .ireturn, 63, 99)]
def ac40 : List Instr := [.iload_n 1, .istore_n 3, .iconst 0, .istore 4, .iload 4, .aload_n 0, .getfield 55, .if_icmp .ge 50, .aload_n 0, .getfield 19, .iload 4, .aaload, .astore 5, .aload 5, .getfield 103, .ifCond .ne 27, .iload 4, .iload_n 2, .if_icmp .eq 21, .iload_n 1, .aload 5, .getfield 194, .iand, .ifCond .eq 11, .iload_n 3, .aload 5, .getfield 194, .ior, .istore_n 3, .iinc 4 1, .goto (-53), .iload_n 3, .ireturn]
-- 41 CoatedBridges$State.lostWithout(I)I
def pg41 : List AEnt := [(0, .aload 0, 1, 99), (1, .iconst (0), 2, 99), (2, .iconst (-1), 3, 99), (3, .invokevirtual 39, 6, 99), (6, .aload 0, 7, 99), (7, .iconst (0), 8, 99), (8, .iload 1, 9, 99), (9, .invokevirtual 39, 12, 99), (12, .iconst (-1), 13, 99), (13, .ixor, 14, 99), (14, .iand, 15, 99), (15, .ireturn, 16, 99)]
def ac41 : List Instr := [.aload_n 0, .iconst 0, .iconst (-1), .invokevirtual 158, .aload_n 0, .iconst 0, .iload_n 1, .invokevirtual 158, .iconst (-1), .ixor, .iand, .ireturn]
-- 42 CoatedBridges$State.neededBridges()I
def pg42 : List AEnt := [(0, .aload 0, 1, 99), (1, .iconst (0), 2, 99), (2, .iconst (-1), 3, 99), (3, .invokevirtual 39, 6, 99), (6, .istore 1, 7, 99), (7, .iconst (0), 8, 99), (8, .istore 2, 9, 99), (9, .iconst (0), 10, 99), (10, .istore 3, 11, 99), (11, .iload 3, 12, 4), (12, .aload 0, 13, 99), (13, .getfield 305, 16, 99), (16, .if_icmp .ge 53, 19, 99), (19, .aload 0, 20, 99), (20, .getfield 301, 23, 99), (23, .iload 3, 24, 99), (24, .instanceof 14, 25, 99), (25, .getfield 105, 28, 99), (28, .ifCond .ne 47, 31, 99), (31, .aload 0, 32, 99), (32, .iconst (0), 33, 99), (33, .iload 3, 34, 99), (34, .invokevirtual 39, 37, 99), (37, .iload 1, 38, 99), (38, .if_icmp .eq 47, 41, 99), (41, .iload 2, 42, 99), (42, .iconst (1), 43, 99), (43, .iload 3, 44, 99), (44, .ishl, 45, 99), (45, .ior, 46, 99), (46, .istore 2, 47, 99), (47, .iinc 3 (1), 50, 99), (50, .goto 11, 53, 99), (53, .iload 2, 54, 99), (54, .ireturn, 55, 99)]
def ac42 : List Instr := [.aload_n 0, .iconst 0, .iconst (-1), .invokevirtual 158, .istore_n 1, .iconst 0, .istore_n 2, .iconst 0, .istore_n 3, .iload_n 3, .aload_n 0, .getfield 55, .if_icmp .ge 37, .aload_n 0, .getfield 19, .iload_n 3, .aaload, .getfield 103, .ifCond .ne 19, .aload_n 0, .iconst 0, .iload_n 3, .invokevirtual 158, .iload_n 1, .if_icmp .eq 9, .iload_n 2, .iconst 1, .iload_n 3, .ishl, .ior, .istore_n 2, .iinc 3 1, .goto (-39), .iload_n 2, .ireturn]
-- 43 CoatedBridges$State.bridgesTo(I)I
def pg43 : List AEnt := [(0, .iconst (1), 1, 99), (1, .istore 2, 2, 99), (2, .iconst (0), 3, 99), (3, .istore 3, 4, 99), (4, .iload 3, 5, 4), (5, .iconst (8), 7, 99), (7, .if_icmp .ge 33, 10, 99), (10, .iload 2, 11, 99), (11, .iload 1, 12, 99), (12, .invokestatic 88, 15, 99), (15, .ifCond .eq 20, 18, 99), (18, .iload 3, 19, 99), (19, .ireturn, 20, 99), (20, .aload 0, 21, 99), (21, .iload 2, 22, 99), (22, .iconst (-1), 23, 99), (23, .invokevirtual 40, 26, 99), (26, .istore 2, 27, 99), (27, .iinc 3 (1), 30, 99), (30, .goto 4, 33, 99), (33, .iconst (-1000004), 35, 99), (35, .ireturn, 36, 99)]
def ac43 : List Instr := [.iconst 1, .istore_n 2, .iconst 0, .istore_n 3, .iload_n 3, .bipush 8, .if_icmp .ge 26, .iload_n 2, .iload_n 1, .invokestatic 148, .ifCond .eq 5, .iload_n 3, .ireturn, .aload_n 0, .iload_n 2, .iconst (-1), .invokevirtual 191, .istore_n 2, .iinc 3 1, .goto (-26), .ldc 190, .ireturn]
-- 44 CoatedBridges$State.openBridgesAt(I)I
def pg44 : List AEnt := [(0, .iconst (0), 1, 99), (1, .istore 2, 2, 99), (2, .iconst (0), 3, 99), (3, .istore 3, 4, 99), (4, .iload 3, 5, 4), (5, .aload 0, 6, 99), (6, .getfield 305, 9, 99), (9, .if_icmp .ge 49, 12, 99), (12, .aload 0, 13, 99), (13, .getfield 301, 16, 99), (16, .iload 3, 17, 99), (17, .instanceof 14, 18, 99), (18, .getfield 105, 21, 99), (21, .ifCond .ne 43, 24, 99), (24, .aload 0, 25, 99), (25, .getfield 301, 28, 99), (28, .iload 3, 29, 99), (29, .instanceof 14, 30, 99), (30, .getfield 102, 33, 99), (33, .iload 1, 34, 99), (34, .invokestatic 88, 37, 99), (37, .ifCond .eq 43, 40, 99), (40, .iinc 2 (1), 43, 99), (43, .iinc 3 (1), 46, 99), (46, .goto 4, 49, 99), (49, .iload 2, 50, 99), (50, .ireturn, 51, 99)]
def ac44 : List Instr := [.iconst 0, .istore_n 2, .iconst 0, .istore_n 3, .iload_n 3, .aload_n 0, .getfield 55, .if_icmp .ge 40, .aload_n 0, .getfield 19, .iload_n 3, .aaload, .getfield 103, .ifCond .ne 22, .aload_n 0, .getfield 19, .iload_n 3, .aaload, .getfield 194, .iload_n 1, .invokestatic 148, .ifCond .eq 6, .iinc 2 1, .iinc 3 1, .goto (-42), .iload_n 2, .ireturn]
-- 45 CoatedBridges$State.groups()I
def pg45 : List AEnt := [(0, .iconst (0), 1, 99), (1, .istore 1, 2, 99), (2, .iconst (0), 3, 99), (3, .istore 2, 4, 99), (4, .iconst (0), 5, 99), (5, .istore 3, 6, 99), (6, .iload 3, 7, 4), (7, .aload 0, 8, 99), (8, .getfield 304, 11, 99), (11, .if_icmp .ge 40, 14, 99), (14, .iload 2, 15, 99), (15, .iload 3, 16, 99), (16, .invokestatic 88, 19, 99), (19, .ifCond .ne 34, 22, 99), (22, .iload 2, 23, 99), (23, .aload 0, 24, 99), (24, .iload 3, 25, 99), (25, .iconst (-1), 26, 99), (26, .invokevirtual 39, 29, 99), (29, .ior, 30, 99), (30, .istore 2, 31, 99), (31, .iinc 1 (1), 34, 99), (34, .iinc 3 (1), 37, 99), (37, .goto 6, 40, 99), (40, .iload 1, 41, 99), (41, .ireturn, 42, 99)]
def ac45 : List Instr := [.iconst 0, .istore_n 1, .iconst 0, .istore_n 2, .iconst 0, .istore_n 3, .iload_n 3, .aload_n 0, .getfield 42, .if_icmp .ge 29, .iload_n 2, .iload_n 3, .invokestatic 148, .ifCond .ne 15, .iload_n 2, .aload_n 0, .iload_n 3, .iconst (-1), .invokevirtual 158, .ior, .istore_n 2, .iinc 1 1, .iinc 3 1, .goto (-31), .iload_n 1, .ireturn]
-- 46 CoatedBridges$State.lowestOnes()I
def pg46 : List AEnt := [(0, .iconst (0), 1, 99), (1, .istore 1, 2, 99), (2, .iconst (0), 3, 99), (3, .istore 2, 4, 99), (4, .iload 2, 5, 3), (5, .aload 0, 6, 99), (6, .getfield 304, 9, 99), (9, .if_icmp .ge 34, 12, 99), (12, .aload 0, 13, 99), (13, .iload 2, 14, 99), (14, .iconst (-1), 15, 99), (15, .invokevirtual 39, 18, 99), (18, .invokestatic 89, 21, 99), (21, .iload 2, 22, 99), (22, .if_icmp .ne 28, 25, 99), (25, .iinc 1 (1), 28, 99), (28, .iinc 2 (1), 31, 99), (31, .goto 4, 34, 99), (34, .iload 1, 35, 99), (35, .ireturn, 36, 99)]
def ac46 : List Instr := [.iconst 0, .istore_n 1, .iconst 0, .istore_n 2, .iload_n 2, .aload_n 0, .getfield 42, .if_icmp .ge 25, .aload_n 0, .iload_n 2, .iconst (-1), .invokevirtual 158, .invokestatic 197, .iload_n 2, .if_icmp .ne 6, .iinc 1 1, .iinc 2 1, .goto (-27), .iload_n 1, .ireturn]
-- 47 CoatedBridges$State.coatsTogether()I
def pg47 : List AEnt := [(0, .iconst (0), 1, 99), (1, .istore 1, 2, 99), (2, .iconst (0), 3, 99), (3, .istore 2, 4, 99), (4, .iload 2, 5, 3), (5, .aload 0, 6, 99), (6, .getfield 305, 9, 99), (9, .if_icmp .ge 30, 12, 99), (12, .iload 1, 13, 99), (13, .aload 0, 14, 99), (14, .getfield 301, 17, 99), (17, .iload 2, 18, 99), (18, .instanceof 14, 19, 99), (19, .getfield 104, 22, 99), (22, .iadd, 23, 99), (23, .istore 1, 24, 99), (24, .iinc 2 (1), 27, 99), (27, .goto 4, 30, 99), (30, .iload 1, 31, 99), (31, .ireturn, 32, 99)]
def ac47 : List Instr := [.iconst 0, .istore_n 1, .iconst 0, .istore_n 2, .iload_n 2, .aload_n 0, .getfield 55, .if_icmp .ge 21, .iload_n 1, .aload_n 0, .getfield 19, .iload_n 2, .aaload, .getfield 109, .iadd, .istore_n 1, .iinc 2 1, .goto (-23), .iload_n 1, .ireturn]
-- 48 CoatedBridges$State.complaintsSoFar()I
def pg48 : List AEnt := [(0, .iconst (0), 1, 99), (1, .istore 1, 2, 99), (2, .iconst (0), 3, 99), (3, .istore 2, 4, 99), (4, .iload 2, 5, 3), (5, .aload 0, 6, 99), (6, .getfield 304, 9, 99), (9, .if_icmp .ge 30, 12, 99), (12, .iload 1, 13, 99), (13, .aload 0, 14, 99), (14, .getfield 300, 17, 99), (17, .iload 2, 18, 99), (18, .instanceof 13, 19, 99), (19, .getfield 203, 22, 99), (22, .iadd, 23, 99), (23, .istore 1, 24, 99), (24, .iinc 2 (1), 27, 99), (27, .goto 4, 30, 99), (30, .iload 1, 31, 99), (31, .ireturn, 32, 99)]
def ac48 : List Instr := [.iconst 0, .istore_n 1, .iconst 0, .istore_n 2, .iload_n 2, .aload_n 0, .getfield 42, .if_icmp .ge 21, .iload_n 1, .aload_n 0, .getfield 11, .iload_n 2, .aaload, .getfield 200, .iadd, .istore_n 1, .iinc 2 1, .goto (-23), .iload_n 1, .ireturn]
-- 49 CoatedBridges$State.longestWaitSoFar()I
def pg49 : List AEnt := [(0, .iconst (0), 1, 99), (1, .istore 1, 2, 99), (2, .iconst (0), 3, 99), (3, .istore 2, 4, 99), (4, .iload 2, 5, 3), (5, .aload 0, 6, 99), (6, .getfield 304, 9, 99), (9, .if_icmp .ge 32, 12, 99), (12, .iload 1, 13, 99), (13, .aload 0, 14, 99), (14, .getfield 300, 17, 99), (17, .iload 2, 18, 99), (18, .instanceof 13, 19, 99), (19, .getfield 202, 22, 99), (22, .invokestatic 93, 25, 99), (25, .istore 1, 26, 99), (26, .iinc 2 (1), 29, 99), (29, .goto 4, 32, 99), (32, .iload 1, 33, 99), (33, .ireturn, 34, 99)]
def ac49 : List Instr := [.iconst 0, .istore_n 1, .iconst 0, .istore_n 2, .iload_n 2, .aload_n 0, .getfield 42, .if_icmp .ge 23, .iload_n 1, .aload_n 0, .getfield 11, .iload_n 2, .aaload, .getfield 203, .invokestatic 182, .istore_n 1, .iinc 2 1, .goto (-25), .iload_n 1, .ireturn]
-- 50 CoatedBridges$Text.<init>()V
def pg50 : List AEnt := [(0, .aload 0, 1, 99), (1, .nop, 4, 99), (4, .aload 0, 5, 99), (5, .iconst (60), 7, 99), (7, .newarray .char, 9, 99), (9, .putfield 400, 12, 99), (12, .aload 0, 13, 99), (13, .iconst (3), 14, 99), (14, .newarray .int, 16, 99), (16, .putfield 402, 19, 99), (19, .return_, 20, 99)]
def ac50 : List Instr := [.aload_n 0, .invokespecial 3, .aload_n 0, .bipush 60, .newarray .char, .putfield 9, .aload_n 0, .iconst 3, .newarray .int, .putfield 15, .return_]
-- 51 CoatedBridges$Text.append(C)Z
def pg51 : List AEnt := [(0, .aload 0, 1, 99), (1, .getfield 401, 4, 99), (4, .iconst (60), 6, 99), (6, .if_icmp .lt 11, 9, 99), (9, .iconst (0), 10, 99), (10, .freturn, 11, 99), (11, .aload 0, 12, 99), (12, .getfield 400, 15, 99), (15, .aload 0, 16, 99), (16, .getfield 401, 19, 99), (19, .iload 1, 20, 99), (20, .castore, 21, 99), (21, .aload 0, 22, 99), (22, .dup, 23, 99), (23, .getfield 401, 26, 99), (26, .iconst (1), 27, 99), (27, .iadd, 28, 99), (28, .putfield 401, 31, 99), (31, .iconst (1), 32, 99), (32, .freturn, 33, 99)]
def ac51 : List Instr := [.aload_n 0, .getfield 19, .bipush 60, .if_icmp .lt 5, .iconst 0, .ireturn, .aload_n 0, .getfield 9, .aload_n 0, .getfield 19, .iload_n 1, .castore, .aload_n 0, .dup, .getfield 19, .iconst 1, .iadd, .putfield 19, .iconst 1, .ireturn]
-- 52 CoatedBridges$Text.readOrder(I)Z
def pg52_0 : List AEnt := [(0, .aload 0, 1, 99), (1, .iload 1, 2, 99), (2, .putfield 404, 5, 99), (5, .aload 0, 6, 99), (6, .aload 0, 7, 99), (7, .getfield 400, 10, 99), (10, .aload 0, 11, 99), (11, .getfield 404, 14, 99), (14, .caload, 15, 99), (15, .putfield 403, 18, 99), (18, .aload 0, 19, 99), (19, .getfield 403, 22, 99), (22, .invokestatic 53, 25, 99), (25, .istore 2, 26, 99), (26, .iload 2, 27, 99), (27, .ifCond .ne 32, 30, 99), (30, .iconst (0), 31, 99), (31, .freturn, 32, 99), (32, .aload 0, 33, 99), (33, .dup, 34, 99), (34, .getfield 404, 37, 99), (37, .iconst (1), 38, 99), (38, .iadd, 39, 99), (39, .putfield 404, 42, 99), (42, .iconst (0), 43, 99), (43, .istore 3, 44, 99), (44, .iload 3, 45, 4), (45, .iload 2, 46, 99), (46, .if_icmp .ge 78, 49, 99), (49, .iload 3, 50, 99), (50, .ifCond .le 62, 53, 99), (53, .aload 0, 54, 99), (54, .iconst (44), 56, 99), (56, .invokevirtual 54, 59, 99), (59, .ifCond .eq 70, 62, 99), (62, .aload 0, 63, 99), (63, .iload 3, 64, 99), (64, .invokevirtual 55, 67, 99), (67, .ifCond .ne 72, 70, 99), (70, .iconst (0), 71, 99)]
def pg52_1 : List AEnt := [(71, .freturn, 72, 99), (72, .iinc 3 (1), 75, 99), (75, .goto 44, 78, 99), (78, .aload 0, 79, 99), (79, .iconst (59), 81, 99), (81, .invokevirtual 54, 84, 99), (84, .freturn, 85, 99)]
def pg52 : List AEnt := pg52_0 ++ (pg52_1)
def ac52_0 : List Instr := [.aload_n 0, .iload_n 1, .putfield 23, .aload_n 0, .aload_n 0, .getfield 9, .aload_n 0, .getfield 23, .caload, .putfield 26, .aload_n 0, .getfield 26, .invokestatic 30, .istore_n 2, .iload_n 2, .ifCond .ne 5, .iconst 0, .ireturn, .aload_n 0, .dup, .getfield 23, .iconst 1, .iadd, .putfield 23, .iconst 0, .istore_n 3, .iload_n 3, .iload_n 2, .if_icmp .ge 32, .iload_n 3, .ifCond .le 12, .aload_n 0, .bipush 44, .invokevirtual 34, .ifCond .eq 11, .aload_n 0, .iload_n 3, .invokevirtual 38, .ifCond .ne 5, .iconst 0]
def ac52_1 : List Instr := [.ireturn, .iinc 3 1, .goto (-31), .aload_n 0, .bipush 59, .invokevirtual 34, .ireturn]
def ac52 : List Instr := ac52_0 ++ (ac52_1)
-- 53 CoatedBridges$Text.numbersOf(C)I
def pg53 : List AEnt := [(0, .iload 0, 1, 99), (1, .tableswitch 92 (98) (115) #[88, 92, 90, 92, 90, 92, 92, 90, 92, 92, 92, 92, 92, 92, 90, 92, 90, 90], 88, 99), (88, .iconst (3), 89, 99), (89, .ireturn, 90, 99), (90, .iconst (1), 91, 99), (91, .ireturn, 92, 99), (92, .iconst (0), 93, 99), (93, .ireturn, 94, 99)]
def ac53 : List Instr := [.iload_n 0, .tableswitch 91 98 115 #[87, 91, 89, 91, 89, 91, 91, 89, 91, 91, 91, 91, 91, 91, 89, 91, 89, 89], .iconst 3, .ireturn, .iconst 1, .ireturn, .iconst 0, .ireturn]
-- 54 CoatedBridges$Text.take(C)Z
def pg54 : List AEnt := [(0, .aload 0, 1, 99), (1, .getfield 404, 4, 99), (4, .aload 0, 5, 99), (5, .getfield 401, 8, 99), (8, .if_icmp .ge 24, 11, 99), (11, .aload 0, 12, 99), (12, .getfield 400, 15, 99), (15, .aload 0, 16, 99), (16, .getfield 404, 19, 99), (19, .caload, 20, 99), (20, .iload 1, 21, 99), (21, .if_icmp .eq 26, 24, 99), (24, .iconst (0), 25, 99), (25, .freturn, 26, 99), (26, .aload 0, 27, 99), (27, .dup, 28, 99), (28, .getfield 404, 31, 99), (31, .iconst (1), 32, 99), (32, .iadd, 33, 99), (33, .putfield 404, 36, 99), (36, .iconst (1), 37, 99), (37, .freturn, 38, 99)]
def ac54 : List Instr := [.aload_n 0, .getfield 23, .aload_n 0, .getfield 19, .if_icmp .ge 16, .aload_n 0, .getfield 9, .aload_n 0, .getfield 23, .caload, .iload_n 1, .if_icmp .eq 5, .iconst 0, .ireturn, .aload_n 0, .dup, .getfield 23, .iconst 1, .iadd, .putfield 23, .iconst 1, .ireturn]
-- 55 CoatedBridges$Text.readNumber(I)Z
def pg55_0 : List AEnt := [(0, .iconst (0), 1, 99), (1, .istore 2, 2, 99), (2, .iconst (0), 3, 99), (3, .istore 3, 4, 99), (4, .iload 3, 5, 4), (5, .iconst (3), 6, 99), (6, .if_icmp .ge 50, 9, 99), (9, .aload 0, 10, 99), (10, .invokevirtual 56, 13, 99), (13, .ifCond .eq 50, 16, 99), (16, .iload 2, 17, 99), (17, .iconst (10), 19, 99), (19, .imul, 20, 99), (20, .aload 0, 21, 99), (21, .getfield 400, 24, 99), (24, .aload 0, 25, 99), (25, .getfield 404, 28, 99), (28, .caload, 29, 99), (29, .iconst (48), 31, 99), (31, .isub, 32, 99), (32, .iadd, 33, 99), (33, .istore 2, 34, 99), (34, .aload 0, 35, 99), (35, .dup, 36, 99), (36, .getfield 404, 39, 99), (39, .iconst (1), 40, 99), (40, .iadd, 41, 99), (41, .putfield 404, 44, 99), (44, .iinc 3 (1), 47, 99), (47, .goto 4, 50, 99), (50, .aload 0, 51, 99), (51, .getfield 402, 54, 99), (54, .iload 1, 55, 99), (55, .iload 2, 56, 99), (56, .iastore, 57, 99), (57, .iload 3, 58, 99), (58, .ifCond .le 65, 61, 99), (61, .iconst (1), 62, 99), (62, .goto 66, 65, 99), (65, .iconst (0), 66, 99)]
def pg55_1 : List AEnt := [(66, .freturn, 67, 99)]
def pg55 : List AEnt := pg55_0 ++ (pg55_1)
def ac55_0 : List Instr := [.iconst 0, .istore_n 2, .iconst 0, .istore_n 3, .iload_n 3, .iconst 3, .if_icmp .ge 44, .aload_n 0, .invokevirtual 42, .ifCond .eq 37, .iload_n 2, .bipush 10, .imul, .aload_n 0, .getfield 9, .aload_n 0, .getfield 23, .caload, .bipush 48, .isub, .iadd, .istore_n 2, .aload_n 0, .dup, .getfield 23, .iconst 1, .iadd, .putfield 23, .iinc 3 1, .goto (-43), .aload_n 0, .getfield 15, .iload_n 1, .iload_n 2, .iastore, .iload_n 3, .ifCond .le 7, .iconst 1, .goto 4, .iconst 0]
def ac55_1 : List Instr := [.ireturn]
def ac55 : List Instr := ac55_0 ++ (ac55_1)
-- 56 CoatedBridges$Text.atDigit()Z
def pg56 : List AEnt := [(0, .aload 0, 1, 99), (1, .getfield 404, 4, 99), (4, .aload 0, 5, 99), (5, .getfield 401, 8, 99), (8, .if_icmp .ge 43, 11, 99), (11, .aload 0, 12, 99), (12, .getfield 400, 15, 99), (15, .aload 0, 16, 99), (16, .getfield 404, 19, 99), (19, .caload, 20, 99), (20, .iconst (48), 22, 99), (22, .if_icmp .lt 43, 25, 99), (25, .aload 0, 26, 99), (26, .getfield 400, 29, 99), (29, .aload 0, 30, 99), (30, .getfield 404, 33, 99), (33, .caload, 34, 99), (34, .iconst (57), 36, 99), (36, .if_icmp .gt 43, 39, 99), (39, .iconst (1), 40, 99), (40, .goto 44, 43, 99), (43, .iconst (0), 44, 99), (44, .freturn, 45, 99)]
def ac56 : List Instr := [.aload_n 0, .getfield 23, .aload_n 0, .getfield 19, .if_icmp .ge 35, .aload_n 0, .getfield 9, .aload_n 0, .getfield 23, .caload, .bipush 48, .if_icmp .lt 21, .aload_n 0, .getfield 9, .aload_n 0, .getfield 23, .caload, .bipush 57, .if_icmp .gt 7, .iconst 1, .goto 4, .iconst 0, .ireturn]
-- 57 CoatedBridges.<init>()V
def pg57 : List AEnt := [(0, .aload 0, 1, 99), (1, .nop, 4, 99), (4, .aload 0, 5, 99), (5, .new 3, 8, 99), (8, .dup, 9, 99), (9, .invokevirtual 18, 12, 99), (12, .putfield 500, 15, 99), (15, .aload 0, 16, 99), (16, .new 3, 19, 99), (19, .dup, 20, 99), (20, .invokevirtual 18, 23, 99), (23, .putfield 501, 26, 99), (26, .aload 0, 27, 99), (27, .iconst (4), 28, 99), (28, .anewarray 15, 31, 99), (31, .putfield 502, 34, 99), (34, .aload 0, 35, 99), (35, .new 4, 38, 99), (38, .dup, 39, 99), (39, .invokevirtual 50, 42, 99), (42, .putfield 504, 45, 99), (45, .iconst (0), 46, 99), (46, .istore 1, 47, 99), (47, .iload 1, 48, 2), (48, .iconst (4), 49, 99), (49, .if_icmp .ge 71, 52, 99), (52, .aload 0, 53, 99), (53, .getfield 502, 56, 99), (56, .iload 1, 57, 99), (57, .new 3, 60, 99), (60, .dup, 61, 99), (61, .invokevirtual 18, 64, 99), (64, .multianewarray 15 0, 65, 99), (65, .iinc 1 (1), 68, 99), (68, .goto 47, 71, 99), (71, .return_, 72, 99)]
def ac57 : List Instr := [.aload_n 0, .invokespecial 1, .aload_n 0, .new 7, .dup, .invokespecial 9, .putfield 10, .aload_n 0, .new 7, .dup, .invokespecial 9, .putfield 16, .aload_n 0, .iconst 4, .anewarray 7, .putfield 19, .aload_n 0, .new 23, .dup, .invokespecial 25, .putfield 26, .iconst 0, .istore_n 1, .iload_n 1, .iconst 4, .if_icmp .ge 22, .aload_n 0, .getfield 19, .iload_n 1, .new 7, .dup, .invokespecial 9, .aastore, .iinc 1 1, .goto (-21), .return_]
-- 58 CoatedBridges.island(I)I
def pg58 : List AEnt := [(0, .aload 0, 1, 99), (1, .aload 0, 2, 99), (2, .invokevirtual 82, 5, 99), (5, .iload 1, 6, 99), (6, .invokevirtual 22, 9, 99), (9, .invokevirtual 83, 12, 99), (12, .ireturn, 13, 99)]
def ac58 : List Instr := [.aload_n 0, .aload_n 0, .invokevirtual 30, .iload_n 1, .invokevirtual 34, .invokevirtual 38, .ireturn]
-- 59 CoatedBridges.bridge(III)I
def pg59 : List AEnt := [(0, .aload 0, 1, 99), (1, .aload 0, 2, 99), (2, .invokevirtual 82, 5, 99), (5, .iload 1, 6, 99), (6, .iload 2, 7, 99), (7, .iload 3, 8, 99), (8, .invokevirtual 23, 11, 99), (11, .invokevirtual 83, 14, 99), (14, .ireturn, 15, 99)]
def ac59 : List Instr := [.aload_n 0, .aload_n 0, .invokevirtual 30, .iload_n 1, .iload_n 2, .iload_n 3, .invokevirtual 41, .invokevirtual 38, .ireturn]
-- 60 CoatedBridges.send(II)I
def pg60 : List AEnt := [(0, .aload 0, 1, 99), (1, .aload 0, 2, 99), (2, .invokevirtual 82, 5, 99), (5, .iload 1, 6, 99), (6, .iload 2, 7, 99), (7, .invokevirtual 24, 10, 99), (10, .invokevirtual 83, 13, 99), (13, .ireturn, 14, 99)]
def ac60 : List Instr := [.aload_n 0, .aload_n 0, .invokevirtual 30, .iload_n 1, .iload_n 2, .invokevirtual 45, .invokevirtual 38, .ireturn]
-- 61 CoatedBridges.recall(I)I
def pg61 : List AEnt := [(0, .aload 0, 1, 99), (1, .aload 0, 2, 99), (2, .invokevirtual 82, 5, 99), (5, .iload 1, 6, 99), (6, .invokevirtual 25, 9, 99), (9, .invokevirtual 83, 12, 99), (12, .ireturn, 13, 99)]
def ac61 : List Instr := [.aload_n 0, .aload_n 0, .invokevirtual 30, .iload_n 1, .invokevirtual 49, .invokevirtual 38, .ireturn]
-- 62 CoatedBridges.pay(I)I
def pg62 : List AEnt := [(0, .aload 0, 1, 99), (1, .aload 0, 2, 99), (2, .invokevirtual 82, 5, 99), (5, .iload 1, 6, 99), (6, .invokevirtual 26, 9, 99), (9, .invokevirtual 83, 12, 99), (12, .ireturn, 13, 99)]
def ac62 : List Instr := [.aload_n 0, .aload_n 0, .invokevirtual 30, .iload_n 1, .invokevirtual 52, .invokevirtual 38, .ireturn]
-- 63 CoatedBridges.days(I)I
def pg63 : List AEnt := [(0, .aload 0, 1, 99), (1, .aload 0, 2, 99), (2, .invokevirtual 82, 5, 99), (5, .iload 1, 6, 99), (6, .invokevirtual 28, 9, 99), (9, .invokevirtual 83, 12, 99), (12, .ireturn, 13, 99)]
def ac63 : List Instr := [.aload_n 0, .aload_n 0, .invokevirtual 30, .iload_n 1, .invokevirtual 55, .invokevirtual 38, .ireturn]
-- 64 CoatedBridges.set(II)I
def pg64 : List AEnt := [(0, .aload 0, 1, 99), (1, .aload 0, 2, 99), (2, .invokevirtual 82, 5, 99), (5, .iload 1, 6, 99), (6, .iload 2, 7, 99), (7, .invokevirtual 27, 10, 99), (10, .invokevirtual 83, 13, 99), (13, .ireturn, 14, 99)]
def ac64 : List Instr := [.aload_n 0, .aload_n 0, .invokevirtual 30, .iload_n 1, .iload_n 2, .invokevirtual 58, .invokevirtual 38, .ireturn]
-- 65 CoatedBridges.bridgeOf(II)I
def pg65_0 : List AEnt := [(0, .aload 0, 1, 99), (1, .getfield 500, 4, 99), (4, .iload 1, 5, 99), (5, .invokevirtual 21, 8, 99), (8, .ifCond .ne 14, 11, 99), (11, .iconst (-1000001), 13, 99), (13, .ireturn, 14, 99), (14, .aload 0, 15, 99), (15, .getfield 500, 18, 99), (18, .getfield 301, 21, 99), (21, .iload 1, 22, 99), (22, .instanceof 14, 23, 99), (23, .astore 3, 24, 99), (24, .iload 2, 25, 99), (25, .tableswitch 136 (0) (8) #[76, 81, 86, 91, 96, 101, 106, 111, 116], 76, 99), (76, .aload 3, 77, 99), (77, .getfield 100, 80, 99), (80, .ireturn, 81, 99), (81, .aload 3, 82, 99), (82, .getfield 101, 85, 99), (85, .ireturn, 86, 99), (86, .aload 3, 87, 99), (87, .getfield 103, 90, 99), (90, .ireturn, 91, 99), (91, .aload 3, 92, 99), (92, .getfield 104, 95, 99), (95, .ireturn, 96, 99), (96, .aload 3, 97, 99), (97, .getfield 105, 100, 99), (100, .ireturn, 101, 99), (101, .aload 3, 102, 99), (102, .getfield 106, 105, 99), (105, .ireturn, 106, 99), (106, .aload 3, 107, 99), (107, .getfield 107, 110, 99), (110, .ireturn, 111, 99), (111, .aload 3, 112, 99), (112, .getfield 108, 115, 99), (115, .ireturn, 116, 99), (116, .aload 0, 117, 99)]
def pg65_1 : List AEnt := [(117, .getfield 500, 120, 99), (120, .invokevirtual 42, 123, 99), (123, .iload 1, 124, 99), (124, .invokestatic 88, 127, 99), (127, .ifCond .eq 134, 130, 99), (130, .iconst (1), 131, 99), (131, .goto 135, 134, 99), (134, .iconst (0), 135, 99), (135, .ireturn, 136, 99), (136, .iconst (-1000001), 138, 99), (138, .ireturn, 139, 99)]
def pg65 : List AEnt := pg65_0 ++ (pg65_1)
def ac65_0 : List Instr := [.aload_n 0, .getfield 10, .iload_n 1, .invokevirtual 61, .ifCond .ne 6, .ldc 65, .ireturn, .aload_n 0, .getfield 10, .getfield 66, .iload_n 1, .aaload, .astore_n 3, .iload_n 2, .tableswitch 111 0 8 #[51, 56, 61, 66, 71, 76, 81, 86, 91], .aload_n 3, .getfield 70, .ireturn, .aload_n 3, .getfield 76, .ireturn, .aload_n 3, .getfield 79, .ireturn, .aload_n 3, .getfield 82, .ireturn, .aload_n 3, .getfield 85, .ireturn, .aload_n 3, .getfield 88, .ireturn, .aload_n 3, .getfield 91, .ireturn, .aload_n 3, .getfield 94, .ireturn, .aload_n 0]
def ac65_1 : List Instr := [.getfield 10, .invokevirtual 97, .iload_n 1, .invokestatic 101, .ifCond .eq 7, .iconst 1, .goto 4, .iconst 0, .ireturn, .ldc 65, .ireturn]
def ac65 : List Instr := ac65_0 ++ (ac65_1)
-- 66 CoatedBridges.islandOf(II)I
def pg66_0 : List AEnt := [(0, .aload 0, 1, 99), (1, .getfield 500, 4, 99), (4, .iload 1, 5, 99), (5, .invokevirtual 20, 8, 99), (8, .ifCond .ne 14, 11, 99), (11, .iconst (-1000001), 13, 99), (13, .ireturn, 14, 99), (14, .aload 0, 15, 99), (15, .getfield 500, 18, 99), (18, .getfield 300, 21, 99), (21, .iload 1, 22, 99), (22, .instanceof 13, 23, 99), (23, .astore 3, 24, 99), (24, .iload 2, 25, 99), (25, .tableswitch 137 (0) (7) #[72, 94, 99, 104, 109, 114, 119, 128], 72, 99), (72, .aload 0, 73, 99), (73, .getfield 500, 76, 99), (76, .iconst (0), 77, 99), (77, .iconst (-1), 78, 99), (78, .invokevirtual 39, 81, 99), (81, .iload 1, 82, 99), (82, .invokestatic 88, 85, 99), (85, .ifCond .eq 92, 88, 99), (88, .iconst (1), 89, 99), (89, .goto 93, 92, 99), (92, .iconst (0), 93, 99), (93, .ireturn, 94, 99), (94, .aload 3, 95, 99), (95, .getfield 201, 98, 99), (98, .ireturn, 99, 99), (99, .aload 3, 100, 99), (100, .getfield 200, 103, 99), (103, .ireturn, 104, 99), (104, .aload 3, 105, 99), (105, .getfield 203, 108, 99), (108, .ireturn, 109, 99), (109, .aload 3, 110, 99), (110, .getfield 202, 113, 99), (113, .ireturn, 114, 99), (114, .aload 3, 115, 99)]
def pg66_1 : List AEnt := [(115, .getfield 204, 118, 99), (118, .ireturn, 119, 99), (119, .aload 0, 120, 99), (120, .getfield 500, 123, 99), (123, .iload 1, 124, 99), (124, .invokevirtual 44, 127, 99), (127, .ireturn, 128, 99), (128, .aload 0, 129, 99), (129, .getfield 500, 132, 99), (132, .iload 1, 133, 99), (133, .invokevirtual 43, 136, 99), (136, .ireturn, 137, 99), (137, .iconst (-1000001), 139, 99), (139, .ireturn, 140, 99)]
def pg66 : List AEnt := pg66_0 ++ (pg66_1)
def ac66_0 : List Instr := [.aload_n 0, .getfield 10, .iload_n 1, .invokevirtual 105, .ifCond .ne 6, .ldc 65, .ireturn, .aload_n 0, .getfield 10, .getfield 108, .iload_n 1, .aaload, .astore_n 3, .iload_n 2, .tableswitch 112 0 7 #[47, 69, 74, 79, 84, 89, 94, 103], .aload_n 0, .getfield 10, .iconst 0, .iconst (-1), .invokevirtual 112, .iload_n 1, .invokestatic 101, .ifCond .eq 7, .iconst 1, .goto 4, .iconst 0, .ireturn, .aload_n 3, .getfield 115, .ireturn, .aload_n 3, .getfield 120, .ireturn, .aload_n 3, .getfield 123, .ireturn, .aload_n 3, .getfield 126, .ireturn, .aload_n 3]
def ac66_1 : List Instr := [.getfield 129, .ireturn, .aload_n 0, .getfield 10, .iload_n 1, .invokevirtual 132, .ireturn, .aload_n 0, .getfield 10, .iload_n 1, .invokevirtual 135, .ireturn, .ldc 65, .ireturn]
def ac66 : List Instr := ac66_0 ++ (ac66_1)
-- 67 CoatedBridges.reach(I)I
def pg67 : List AEnt := [(0, .aload 0, 1, 99), (1, .getfield 500, 4, 99), (4, .iload 1, 5, 99), (5, .invokevirtual 20, 8, 99), (8, .ifCond .eq 23, 11, 99), (11, .aload 0, 12, 99), (12, .getfield 500, 15, 99), (15, .iload 1, 16, 99), (16, .iconst (-1), 17, 99), (17, .invokevirtual 39, 20, 99), (20, .goto 25, 23, 99), (23, .iconst (-1000001), 25, 99), (25, .ireturn, 26, 99)]
def ac67 : List Instr := [.aload_n 0, .getfield 10, .iload_n 1, .invokevirtual 105, .ifCond .eq 15, .aload_n 0, .getfield 10, .iload_n 1, .iconst (-1), .invokevirtual 112, .goto 5, .ldc 65, .ireturn]
-- 68 CoatedBridges.book(II)I
def pg68 : List AEnt := [(0, .iload 1, 1, 99), (1, .ifCond .lt 13, 4, 99), (4, .iload 2, 5, 99), (5, .ifCond .lt 13, 8, 99), (8, .iload 2, 9, 99), (9, .iconst (1), 10, 99), (10, .if_icmp .le 16, 13, 99), (13, .iconst (-1000001), 15, 99), (15, .ireturn, 16, 99), (16, .iload 2, 17, 99), (17, .ifCond .ne 34, 20, 99), (20, .aload 0, 21, 99), (21, .getfield 500, 24, 99), (24, .getfield 303, 27, 99), (27, .iload 1, 28, 99), (28, .invokevirtual 4, 31, 99), (31, .goto 45, 34, 99), (34, .aload 0, 35, 99), (35, .getfield 500, 38, 99), (38, .getfield 303, 41, 99), (41, .iload 1, 42, 99), (42, .invokevirtual 5, 45, 99), (45, .ireturn, 46, 99)]
def ac68 : List Instr := [.iload_n 1, .ifCond .lt 12, .iload_n 2, .ifCond .lt 8, .iload_n 2, .iconst 1, .if_icmp .le 6, .ldc 65, .ireturn, .iload_n 2, .ifCond .ne 17, .aload_n 0, .getfield 10, .getfield 138, .iload_n 1, .invokevirtual 142, .goto 14, .aload_n 0, .getfield 10, .getfield 138, .iload_n 1, .invokevirtual 147, .ireturn]
-- 69 CoatedBridges.why(II)I
def pg69 : List AEnt := [(0, .aload 0, 1, 99), (1, .getfield 500, 4, 99), (4, .iload 1, 5, 99), (5, .invokevirtual 21, 8, 99), (8, .ifCond .eq 20, 11, 99), (11, .iload 2, 12, 99), (12, .ifCond .lt 20, 15, 99), (15, .iload 2, 16, 99), (16, .iconst (1), 17, 99), (17, .if_icmp .le 23, 20, 99), (20, .iconst (-1000001), 22, 99), (22, .ireturn, 23, 99), (23, .aload 0, 24, 99), (24, .getfield 500, 27, 99), (27, .iload 1, 28, 99), (28, .invokevirtual 36, 31, 99), (31, .istore 3, 32, 99), (32, .iload 2, 33, 99), (33, .ifCond .ne 38, 36, 99), (36, .iload 3, 37, 99), (37, .ireturn, 38, 99), (38, .iload 3, 39, 99), (39, .iconst (4), 40, 99), (40, .if_icmp .ne 57, 43, 99), (43, .aload 0, 44, 99), (44, .getfield 500, 47, 99), (47, .iload 1, 48, 99), (48, .invokevirtual 41, 51, 99), (51, .invokestatic 89, 54, 99), (54, .goto 59, 57, 99), (57, .iconst (-1000004), 59, 99), (59, .ireturn, 60, 99)]
def ac69 : List Instr := [.aload_n 0, .getfield 10, .iload_n 1, .invokevirtual 61, .ifCond .eq 12, .iload_n 2, .ifCond .lt 8, .iload_n 2, .iconst 1, .if_icmp .le 6, .ldc 65, .ireturn, .aload_n 0, .getfield 10, .iload_n 1, .invokevirtual 150, .istore_n 3, .iload_n 2, .ifCond .ne 5, .iload_n 3, .ireturn, .iload_n 3, .iconst 4, .if_icmp .ne 17, .aload_n 0, .getfield 10, .iload_n 1, .invokevirtual 153, .invokestatic 156, .goto 5, .ldc 159, .ireturn]
-- 70 CoatedBridges.best()I
def pg70 : List AEnt := [(0, .aload 0, 1, 99), (1, .getfield 500, 4, 99), (4, .invokevirtual 37, 7, 99), (7, .ireturn, 8, 99)]
def ac70 : List Instr := [.aload_n 0, .getfield 10, .invokevirtual 160, .ireturn]
-- 71 CoatedBridges.rustsIn(I)I
def pg71 : List AEnt := [(0, .aload 0, 1, 99), (1, .getfield 500, 4, 99), (4, .iload 1, 5, 99), (5, .invokevirtual 21, 8, 99), (8, .ifCond .ne 14, 11, 99), (11, .iconst (-1000001), 13, 99), (13, .ireturn, 14, 99), (14, .aload 0, 15, 99), (15, .getfield 500, 18, 99), (18, .getfield 301, 21, 99), (21, .iload 1, 22, 99), (22, .instanceof 14, 23, 99), (23, .astore 2, 24, 99), (24, .aload 2, 25, 99), (25, .getfield 105, 28, 99), (28, .iconst (1), 29, 99), (29, .if_icmp .ne 37, 32, 99), (32, .iconst (-1000002), 34, 99), (34, .goto 41, 37, 99), (37, .aload 2, 38, 99), (38, .invokevirtual 13, 41, 99), (41, .ireturn, 42, 99)]
def ac71 : List Instr := [.aload_n 0, .getfield 10, .iload_n 1, .invokevirtual 61, .ifCond .ne 6, .ldc 65, .ireturn, .aload_n 0, .getfield 10, .getfield 66, .iload_n 1, .aaload, .astore_n 2, .aload_n 2, .getfield 85, .iconst 1, .if_icmp .ne 8, .ldc 163, .goto 7, .aload_n 2, .invokevirtual 164, .ireturn]
-- 72 CoatedBridges.paintedIn(I)I
def pg72 : List AEnt := [(0, .aload 0, 1, 99), (1, .getfield 500, 4, 99), (4, .iload 1, 5, 99), (5, .invokevirtual 21, 8, 99), (8, .ifCond .ne 14, 11, 99), (11, .iconst (-1000001), 13, 99), (13, .ireturn, 14, 99), (14, .aload 0, 15, 99), (15, .getfield 500, 18, 99), (18, .getfield 301, 21, 99), (21, .iload 1, 22, 99), (22, .instanceof 14, 23, 99), (23, .getfield 105, 26, 99), (26, .iconst (1), 27, 99), (27, .if_icmp .eq 33, 30, 99), (30, .iconst (-1000002), 32, 99), (32, .ireturn, 33, 99), (33, .aload 0, 34, 99), (34, .invokevirtual 82, 37, 99), (37, .astore 2, 38, 99), (38, .iconst (1), 39, 99), (39, .istore 3, 40, 99), (40, .iload 3, 41, 4), (41, .iconst (200), 44, 99), (44, .if_icmp .gt 72, 47, 99), (47, .aload 2, 48, 99), (48, .invokevirtual 29, 51, 99), (51, .pop, 52, 99), (52, .aload 2, 53, 99), (53, .getfield 301, 56, 99), (56, .iload 1, 57, 99), (57, .instanceof 14, 58, 99), (58, .getfield 105, 61, 99), (61, .ifCond .ne 66, 64, 99), (64, .iload 3, 65, 99), (65, .ireturn, 66, 99), (66, .iinc 3 (1), 69, 99), (69, .goto 40, 72, 99), (72, .iconst (-1000004), 74, 99), (74, .ireturn, 75, 99)]
def ac72 : List Instr := [.aload_n 0, .getfield 10, .iload_n 1, .invokevirtual 61, .ifCond .ne 6, .ldc 65, .ireturn, .aload_n 0, .getfield 10, .getfield 66, .iload_n 1, .aaload, .getfield 85, .iconst 1, .if_icmp .eq 6, .ldc 163, .ireturn, .aload_n 0, .invokevirtual 30, .astore_n 2, .iconst 1, .istore_n 3, .iload_n 3, .sipush 200, .if_icmp .gt 28, .aload_n 2, .invokevirtual 167, .pop, .aload_n 2, .getfield 66, .iload_n 1, .aaload, .getfield 85, .ifCond .ne 5, .iload_n 3, .ireturn, .iinc 3 1, .goto (-29), .ldc 159, .ireturn]
-- 73 CoatedBridges.aloneIn()I
def pg73 : List AEnt := [(0, .aload 0, 1, 99), (1, .getfield 500, 4, 99), (4, .iconst (0), 5, 99), (5, .iconst (-1), 6, 99), (6, .invokevirtual 39, 9, 99), (9, .istore 1, 10, 99), (10, .aload 0, 11, 99), (11, .invokevirtual 82, 14, 99), (14, .astore 2, 15, 99), (15, .iconst (1), 16, 99), (16, .istore 3, 17, 99), (17, .iload 3, 18, 4), (18, .iconst (200), 21, 99), (21, .if_icmp .gt 50, 24, 99), (24, .aload 2, 25, 99), (25, .invokevirtual 29, 28, 99), (28, .pop, 29, 99), (29, .iload 1, 30, 99), (30, .aload 2, 31, 99), (31, .iconst (0), 32, 99), (32, .iconst (-1), 33, 99), (33, .invokevirtual 39, 36, 99), (36, .iconst (-1), 37, 99), (37, .ixor, 38, 99), (38, .iand, 39, 99), (39, .ifCond .eq 44, 42, 99), (42, .iload 3, 43, 99), (43, .ireturn, 44, 99), (44, .iinc 3 (1), 47, 99), (47, .goto 17, 50, 99), (50, .iconst (-1000004), 52, 99), (52, .ireturn, 53, 99)]
def ac73 : List Instr := [.aload_n 0, .getfield 10, .iconst 0, .iconst (-1), .invokevirtual 112, .istore_n 1, .aload_n 0, .invokevirtual 30, .astore_n 2, .iconst 1, .istore_n 3, .iload_n 3, .sipush 200, .if_icmp .gt 29, .aload_n 2, .invokevirtual 167, .pop, .iload_n 1, .aload_n 2, .iconst 0, .iconst (-1), .invokevirtual 112, .iconst (-1), .ixor, .iand, .ifCond .eq 5, .iload_n 3, .ireturn, .iinc 3 1, .goto (-30), .ldc 159, .ireturn]
-- 74 CoatedBridges.ifDays(I)I
def pg74 : List AEnt := [(0, .iload 1, 1, 99), (1, .iconst (1), 2, 99), (2, .if_icmp .lt 11, 5, 99), (5, .iload 1, 6, 99), (6, .iconst (99), 8, 99), (8, .if_icmp .le 14, 11, 99), (11, .iconst (-1000001), 13, 99), (13, .ireturn, 14, 99), (14, .aload 0, 15, 99), (15, .invokevirtual 82, 18, 99), (18, .astore 2, 19, 99), (19, .iconst (0), 20, 99), (20, .istore 3, 21, 99), (21, .iconst (0), 22, 99), (22, .istore 4, 24, 99), (24, .iload 4, 26, 5), (26, .iload 1, 27, 99), (27, .if_icmp .ge 43, 30, 99), (30, .iload 3, 31, 99), (31, .aload 2, 32, 99), (32, .invokevirtual 29, 35, 99), (35, .iadd, 36, 99), (36, .istore 3, 37, 99), (37, .iinc 4 (1), 40, 99), (40, .goto 24, 43, 99), (43, .iload 3, 44, 99), (44, .ireturn, 45, 99)]
def ac74 : List Instr := [.iload_n 1, .iconst 1, .if_icmp .lt 9, .iload_n 1, .bipush 99, .if_icmp .le 6, .ldc 65, .ireturn, .aload_n 0, .invokevirtual 30, .astore_n 2, .iconst 0, .istore_n 3, .iconst 0, .istore 4, .iload 4, .iload_n 1, .if_icmp .ge 16, .iload_n 3, .aload_n 2, .invokevirtual 167, .iadd, .istore_n 3, .iinc 4 1, .goto (-16), .iload_n 3, .ireturn]
-- 75 CoatedBridges.mean()I
def pg75 : List AEnt := [(0, .aload 0, 1, 99), (1, .getfield 500, 4, 99), (4, .getfield 305, 7, 99), (7, .ifCond .ne 13, 10, 99), (10, .iconst (-1000004), 12, 99), (12, .ireturn, 13, 99), (13, .aload 0, 14, 99), (14, .getfield 500, 17, 99), (17, .invokevirtual 47, 20, 99), (20, .i2f, 21, 99), (21, .aload 0, 22, 99), (22, .getfield 500, 25, 99), (25, .getfield 305, 28, 99), (28, .i2f, 29, 99), (29, .fdiv, 30, 99), (30, .invokestatic 90, 33, 99), (33, .ireturn, 34, 99)]
def ac75 : List Instr := [.aload_n 0, .getfield 10, .getfield 170, .ifCond .ne 6, .ldc 159, .ireturn, .aload_n 0, .getfield 10, .invokevirtual 173, .i2f, .aload_n 0, .getfield 10, .getfield 170, .i2f, .fdiv, .invokestatic 176, .ireturn]
-- 76 CoatedBridges.count(I)I
def pg76_0 : List AEnt := [(0, .iload 1, 1, 99), (1, .ifCond .lt 10, 4, 99), (4, .iload 1, 5, 99), (5, .iconst (28), 7, 99), (7, .if_icmp .lt 13, 10, 99), (10, .iconst (-1000001), 12, 99), (12, .ireturn, 13, 99), (13, .iload 1, 14, 99), (14, .iconst (20), 16, 99), (16, .if_icmp .lt 32, 19, 99), (19, .aload 0, 20, 99), (20, .getfield 500, 23, 99), (23, .getfield 302, 26, 99), (26, .iload 1, 27, 99), (27, .iconst (20), 29, 99), (29, .isub, 30, 99), (30, .iaload, 31, 99), (31, .ireturn, 32, 99), (32, .iload 1, 33, 99), (33, .tableswitch 281 (0) (18) #[124, 132, 140, 148, 158, 167, 176, 185, 193, 201, 209, 217, 225, 233, 241, 249, 257, 265, 276], 124, 99), (124, .aload 0, 125, 99), (125, .getfield 500, 128, 99), (128, .getfield 306, 131, 99), (131, .ireturn, 132, 99), (132, .aload 0, 133, 99), (133, .getfield 500, 136, 99), (136, .getfield 304, 139, 99), (139, .ireturn, 140, 99), (140, .aload 0, 141, 99), (141, .getfield 500, 144, 99), (144, .getfield 305, 147, 99), (147, .ireturn, 148, 99), (148, .aload 0, 149, 99), (149, .getfield 500, 152, 99), (152, .iconst (0), 153, 99), (153, .iconst (-1), 154, 99), (154, .invokevirtual 39, 157, 99), (157, .ireturn, 158, 99), (158, .aload 0, 159, 99), (159, .getfield 500, 162, 99)]
def pg76_1 : List AEnt := [(162, .iconst (0), 163, 99), (163, .invokevirtual 38, 166, 99), (166, .ireturn, 167, 99), (167, .aload 0, 168, 99), (168, .getfield 500, 171, 99), (171, .iconst (1), 172, 99), (172, .invokevirtual 38, 175, 99), (175, .ireturn, 176, 99), (176, .aload 0, 177, 99), (177, .getfield 500, 180, 99), (180, .iconst (2), 181, 99), (181, .invokevirtual 38, 184, 99), (184, .ireturn, 185, 99), (185, .aload 0, 186, 99), (186, .getfield 500, 189, 99), (189, .invokevirtual 42, 192, 99), (192, .ireturn, 193, 99), (193, .aload 0, 194, 99), (194, .getfield 500, 197, 99), (197, .invokevirtual 45, 200, 99), (200, .ireturn, 201, 99), (201, .aload 0, 202, 99), (202, .getfield 500, 205, 99), (205, .invokevirtual 46, 208, 99), (208, .ireturn, 209, 99), (209, .aload 0, 210, 99), (210, .getfield 500, 213, 99), (213, .invokevirtual 35, 216, 99), (216, .ireturn, 217, 99), (217, .aload 0, 218, 99), (218, .getfield 500, 221, 99), (221, .invokevirtual 48, 224, 99), (224, .ireturn, 225, 99), (225, .aload 0, 226, 99), (226, .getfield 500, 229, 99), (229, .invokevirtual 49, 232, 99), (232, .ireturn, 233, 99), (233, .aload 0, 234, 99), (234, .getfield 500, 237, 99), (237, .getfield 307, 240, 99)]
def pg76_2 : List AEnt := [(240, .ireturn, 241, 99), (241, .aload 0, 242, 99), (242, .getfield 500, 245, 99), (245, .getfield 308, 248, 99), (248, .ireturn, 249, 99), (249, .aload 0, 250, 99), (250, .getfield 500, 253, 99), (253, .getfield 309, 256, 99), (256, .ireturn, 257, 99), (257, .aload 0, 258, 99), (258, .getfield 500, 261, 99), (261, .getfield 310, 264, 99), (264, .ireturn, 265, 99), (265, .aload 0, 266, 99), (266, .getfield 500, 269, 99), (269, .getfield 303, 272, 99), (272, .getfield 2, 275, 99), (275, .ireturn, 276, 99), (276, .aload 0, 277, 99), (277, .getfield 503, 280, 99), (280, .ireturn, 281, 99), (281, .aload 0, 282, 99), (282, .getfield 504, 285, 99), (285, .getfield 401, 288, 99), (288, .ireturn, 289, 99)]
def pg76 : List AEnt := pg76_0 ++ (pg76_1 ++ (pg76_2))
def ac76_0 : List Instr := [.iload_n 1, .ifCond .lt 9, .iload_n 1, .bipush 28, .if_icmp .lt 6, .ldc 65, .ireturn, .iload_n 1, .bipush 20, .if_icmp .lt 16, .aload_n 0, .getfield 10, .getfield 180, .iload_n 1, .bipush 20, .isub, .iaload, .ireturn, .iload_n 1, .tableswitch 248 0 18 #[91, 99, 107, 115, 125, 134, 143, 152, 160, 168, 176, 184, 192, 200, 208, 216, 224, 232, 243], .aload_n 0, .getfield 10, .getfield 184, .ireturn, .aload_n 0, .getfield 10, .getfield 187, .ireturn, .aload_n 0, .getfield 10, .getfield 170, .ireturn, .aload_n 0, .getfield 10, .iconst 0, .iconst (-1), .invokevirtual 112, .ireturn, .aload_n 0, .getfield 10]
def ac76_1 : List Instr := [.iconst 0, .invokevirtual 190, .ireturn, .aload_n 0, .getfield 10, .iconst 1, .invokevirtual 190, .ireturn, .aload_n 0, .getfield 10, .iconst 2, .invokevirtual 190, .ireturn, .aload_n 0, .getfield 10, .invokevirtual 97, .ireturn, .aload_n 0, .getfield 10, .invokevirtual 193, .ireturn, .aload_n 0, .getfield 10, .invokevirtual 196, .ireturn, .aload_n 0, .getfield 10, .invokevirtual 199, .ireturn, .aload_n 0, .getfield 10, .invokevirtual 202, .ireturn, .aload_n 0, .getfield 10, .invokevirtual 205, .ireturn, .aload_n 0, .getfield 10, .getfield 208]
def ac76_2 : List Instr := [.ireturn, .aload_n 0, .getfield 10, .getfield 211, .ireturn, .aload_n 0, .getfield 10, .getfield 212, .ireturn, .aload_n 0, .getfield 10, .getfield 215, .ireturn, .aload_n 0, .getfield 10, .getfield 138, .getfield 218, .ireturn, .aload_n 0, .getfield 221, .ireturn, .aload_n 0, .getfield 26, .getfield 224, .ireturn]
def ac76 : List Instr := ac76_0 ++ (ac76_1 ++ (ac76_2))
-- 77 CoatedBridges.undo()I
def pg77 : List AEnt := [(0, .aload 0, 1, 99), (1, .getfield 503, 4, 99), (4, .ifCond .ne 10, 7, 99), (7, .iconst (-1000002), 9, 99), (9, .ireturn, 10, 99), (10, .aload 0, 11, 99), (11, .dup, 12, 99), (12, .getfield 503, 15, 99), (15, .iconst (1), 16, 99), (16, .isub, 17, 99), (17, .putfield 503, 20, 99), (20, .aload 0, 21, 99), (21, .getfield 500, 24, 99), (24, .astore 1, 25, 99), (25, .aload 0, 26, 99), (26, .aload 0, 27, 99), (27, .getfield 502, 30, 99), (30, .aload 0, 31, 99), (31, .getfield 503, 34, 99), (34, .instanceof 15, 35, 99), (35, .putfield 500, 38, 99), (38, .aload 0, 39, 99), (39, .getfield 502, 42, 99), (42, .aload 0, 43, 99), (43, .getfield 503, 46, 99), (46, .aload 1, 47, 99), (47, .multianewarray 15 0, 48, 99), (48, .aload 0, 49, 99), (49, .getfield 503, 52, 99), (52, .ireturn, 53, 99)]
def ac77 : List Instr := [.aload_n 0, .getfield 221, .ifCond .ne 6, .ldc 163, .ireturn, .aload_n 0, .dup, .getfield 221, .iconst 1, .isub, .putfield 221, .aload_n 0, .getfield 10, .astore_n 1, .aload_n 0, .aload_n 0, .getfield 19, .aload_n 0, .getfield 221, .aaload, .putfield 10, .aload_n 0, .getfield 19, .aload_n 0, .getfield 221, .aload_n 1, .aastore, .aload_n 0, .getfield 221, .ireturn]
-- 78 CoatedBridges.type(I)I
def pg78 : List AEnt := [(0, .iload 1, 1, 99), (1, .iconst (32), 3, 99), (3, .if_icmp .lt 12, 6, 99), (6, .iload 1, 7, 99), (7, .iconst (126), 9, 99), (9, .if_icmp .le 15, 12, 99), (12, .iconst (-1000001), 14, 99), (14, .ireturn, 15, 99), (15, .aload 0, 16, 99), (16, .getfield 504, 19, 99), (19, .iload 1, 20, 99), (20, .i2c, 21, 99), (21, .invokevirtual 51, 24, 99), (24, .ifCond .eq 37, 27, 99), (27, .aload 0, 28, 99), (28, .getfield 504, 31, 99), (31, .getfield 401, 34, 99), (34, .goto 39, 37, 99), (37, .iconst (-1000003), 39, 99), (39, .ireturn, 40, 99)]
def ac78 : List Instr := [.iload_n 1, .bipush 32, .if_icmp .lt 9, .iload_n 1, .bipush 126, .if_icmp .le 6, .ldc 65, .ireturn, .aload_n 0, .getfield 26, .iload_n 1, .i2c, .invokevirtual 225, .ifCond .eq 13, .aload_n 0, .getfield 26, .getfield 224, .goto 5, .ldc 229, .ireturn]
-- 79 CoatedBridges.clearText()I
def pg79 : List AEnt := [(0, .aload 0, 1, 99), (1, .getfield 504, 4, 99), (4, .getfield 401, 7, 99), (7, .istore 1, 8, 99), (8, .aload 0, 9, 99), (9, .getfield 504, 12, 99), (12, .iconst (0), 13, 99), (13, .putfield 401, 16, 99), (16, .iload 1, 17, 99), (17, .ireturn, 18, 99)]
def ac79 : List Instr := [.aload_n 0, .getfield 26, .getfield 224, .istore_n 1, .aload_n 0, .getfield 26, .iconst 0, .putfield 224, .iload_n 1, .ireturn]
-- 80 CoatedBridges.fault(I)I
def pg80 : List AEnt := [(0, .iload 1, 1, 99), (1, .ifCond .lt 9, 4, 99), (4, .iload 1, 5, 99), (5, .iconst (2), 6, 99), (6, .if_icmp .le 12, 9, 99), (9, .iconst (-1000001), 11, 99), (11, .ireturn, 12, 99), (12, .aload 0, 13, 99), (13, .aload 0, 14, 99), (14, .invokevirtual 82, 17, 99), (17, .invokevirtual 85, 20, 99), (20, .ifCond .lt 26, 23, 99), (23, .iconst (-1000004), 25, 99), (25, .ireturn, 26, 99), (26, .iload 1, 27, 99), (27, .lookupswitch 62 #[(0, 52), (1, 57)], 52, 99), (52, .aload 0, 53, 99), (53, .getfield 505, 56, 99), (56, .ireturn, 57, 99), (57, .aload 0, 58, 99), (58, .getfield 506, 61, 99), (61, .ireturn, 62, 99), (62, .aload 0, 63, 99), (63, .getfield 507, 66, 99), (66, .ireturn, 67, 99)]
def ac80 : List Instr := [.iload_n 1, .ifCond .lt 8, .iload_n 1, .iconst 2, .if_icmp .le 6, .ldc 65, .ireturn, .aload_n 0, .aload_n 0, .invokevirtual 30, .invokevirtual 230, .ifCond .lt 6, .ldc 159, .ireturn, .iload_n 1, .lookupswitch 35 #[(0, 25), (1, 30)], .aload_n 0, .getfield 234, .ireturn, .aload_n 0, .getfield 237, .ireturn, .aload_n 0, .getfield 240, .ireturn]
-- 81 CoatedBridges.play()I
def pg81 : List AEnt := [(0, .aload 0, 1, 99), (1, .aload 0, 2, 99), (2, .aload 0, 3, 99), (3, .invokevirtual 82, 6, 99), (6, .invokevirtual 85, 9, 99), (9, .invokevirtual 83, 12, 99), (12, .ireturn, 13, 99)]
def ac81 : List Instr := [.aload_n 0, .aload_n 0, .aload_n 0, .invokevirtual 30, .invokevirtual 230, .invokevirtual 38, .ireturn]
-- 82 CoatedBridges.startTrial()LCoatedBridges$State;
def pg82 : List AEnt := [(0, .aload 0, 1, 99), (1, .getfield 501, 4, 99), (4, .aload 0, 5, 99), (5, .getfield 500, 8, 99), (8, .invokevirtual 19, 11, 99), (11, .aload 0, 12, 99), (12, .getfield 501, 15, 99), (15, .areturn, 16, 99)]
def ac82 : List Instr := [.aload_n 0, .getfield 16, .aload_n 0, .getfield 10, .invokevirtual 243, .aload_n 0, .getfield 16, .areturn]
-- 83 CoatedBridges.settle(I)I
def pg83 : List AEnt := [(0, .iload 1, 1, 99), (1, .ifCond .ge 6, 4, 99), (4, .iload 1, 5, 99), (5, .ireturn, 6, 99), (6, .aload 0, 7, 99), (7, .getfield 503, 10, 99), (10, .iconst (4), 11, 99), (11, .if_icmp .lt 18, 14, 99), (14, .aload 0, 15, 99), (15, .invokevirtual 84, 18, 99), (18, .aload 0, 19, 99), (19, .getfield 502, 22, 99), (22, .aload 0, 23, 99), (23, .getfield 503, 26, 99), (26, .instanceof 15, 27, 99), (27, .astore 2, 28, 99), (28, .aload 0, 29, 99), (29, .getfield 502, 32, 99), (32, .aload 0, 33, 99), (33, .getfield 503, 36, 99), (36, .aload 0, 37, 99), (37, .getfield 500, 40, 99), (40, .multianewarray 15 0, 41, 99), (41, .aload 0, 42, 99), (42, .dup, 43, 99), (43, .getfield 503, 46, 99), (46, .iconst (1), 47, 99), (47, .iadd, 48, 99), (48, .putfield 503, 51, 99), (51, .aload 0, 52, 99), (52, .aload 0, 53, 99), (53, .getfield 501, 56, 99), (56, .putfield 500, 59, 99), (59, .aload 0, 60, 99), (60, .aload 2, 61, 99), (61, .putfield 501, 64, 99), (64, .iload 1, 65, 99), (65, .ireturn, 66, 99)]
def ac83 : List Instr := [.iload_n 1, .ifCond .ge 5, .iload_n 1, .ireturn, .aload_n 0, .getfield 221, .iconst 4, .if_icmp .lt 7, .aload_n 0, .invokevirtual 247, .aload_n 0, .getfield 19, .aload_n 0, .getfield 221, .aaload, .astore_n 2, .aload_n 0, .getfield 19, .aload_n 0, .getfield 221, .aload_n 0, .getfield 10, .aastore, .aload_n 0, .dup, .getfield 221, .iconst 1, .iadd, .putfield 221, .aload_n 0, .aload_n 0, .getfield 16, .putfield 10, .aload_n 0, .aload_n 2, .putfield 16, .iload_n 1, .ireturn]
-- 84 CoatedBridges.dropOldest()V
def pg84 : List AEnt := [(0, .aload 0, 1, 99), (1, .getfield 502, 4, 99), (4, .iconst (0), 5, 99), (5, .instanceof 15, 6, 99), (6, .astore 1, 7, 99), (7, .iconst (1), 8, 99), (8, .istore 2, 9, 99), (9, .iload 2, 10, 3), (10, .iconst (4), 11, 99), (11, .if_icmp .ge 34, 14, 99), (14, .aload 0, 15, 99), (15, .getfield 502, 18, 99), (18, .iload 2, 19, 99), (19, .iconst (1), 20, 99), (20, .isub, 21, 99), (21, .aload 0, 22, 99), (22, .getfield 502, 25, 99), (25, .iload 2, 26, 99), (26, .instanceof 15, 27, 99), (27, .multianewarray 15 0, 28, 99), (28, .iinc 2 (1), 31, 99), (31, .goto 9, 34, 99), (34, .aload 0, 35, 99), (35, .getfield 502, 38, 99), (38, .iconst (3), 39, 99), (39, .aload 1, 40, 99), (40, .multianewarray 15 0, 41, 99), (41, .aload 0, 42, 99), (42, .iconst (3), 43, 99), (43, .putfield 503, 46, 99), (46, .return_, 47, 99)]
def ac84 : List Instr := [.aload_n 0, .getfield 19, .iconst 0, .aaload, .astore_n 1, .iconst 1, .istore_n 2, .iload_n 2, .iconst 4, .if_icmp .ge 23, .aload_n 0, .getfield 19, .iload_n 2, .iconst 1, .isub, .aload_n 0, .getfield 19, .iload_n 2, .aaload, .aastore, .iinc 2 1, .goto (-22), .aload_n 0, .getfield 19, .iconst 3, .aload_n 1, .aastore, .aload_n 0, .iconst 3, .putfield 221, .return_]
-- 85 CoatedBridges.obeyText(LCoatedBridges$State;)I
def pg85_0 : List AEnt := [(0, .iconst (0), 1, 99), (1, .istore 2, 2, 99), (2, .iconst (0), 3, 99), (3, .istore 3, 4, 99), (4, .iload 3, 5, 4), (5, .iconst (60), 7, 99), (7, .if_icmp .ge 87, 10, 99), (10, .iload 2, 11, 99), (11, .aload 0, 12, 99), (12, .getfield 504, 15, 99), (15, .getfield 401, 18, 99), (18, .if_icmp .ge 87, 21, 99), (21, .aload 0, 22, 99), (22, .getfield 504, 25, 99), (25, .iload 2, 26, 99), (26, .invokevirtual 52, 29, 99), (29, .ifCond .ne 50, 32, 99), (32, .aload 0, 33, 99), (33, .iload 2, 34, 99), (34, .iconst (1), 35, 99), (35, .aload 0, 36, 99), (36, .getfield 504, 39, 99), (39, .getfield 404, 42, 99), (42, .iload 2, 43, 99), (43, .isub, 44, 99), (44, .invokevirtual 86, 47, 99), (47, .iconst (-1000002), 49, 99), (49, .ireturn, 50, 99), (50, .aload 0, 51, 99), (51, .aload 1, 52, 99), (52, .invokevirtual 87, 55, 99), (55, .istore 4, 57, 99), (57, .iload 4, 59, 99), (59, .ifCond .ge 73, 62, 99), (62, .aload 0, 63, 99), (63, .iload 2, 64, 99), (64, .iconst (2), 65, 99), (65, .iload 4, 67, 99), (67, .invokevirtual 86, 70, 99), (70, .iconst (-1000002), 72, 99)]
def pg85_1 : List AEnt := [(72, .ireturn, 73, 99), (73, .aload 0, 74, 99), (74, .getfield 504, 77, 99), (77, .getfield 404, 80, 99), (80, .istore 2, 81, 99), (81, .iinc 3 (1), 84, 99), (84, .goto 4, 87, 99), (87, .iload 3, 88, 99), (88, .ireturn, 89, 99)]
def pg85 : List AEnt := pg85_0 ++ (pg85_1)
def ac85_0 : List Instr := [.iconst 0, .istore_n 2, .iconst 0, .istore_n 3, .iload_n 3, .bipush 60, .if_icmp .ge 80, .iload_n 2, .aload_n 0, .getfield 26, .getfield 224, .if_icmp .ge 69, .aload_n 0, .getfield 26, .iload_n 2, .invokevirtual 250, .ifCond .ne 21, .aload_n 0, .iload_n 2, .iconst 1, .aload_n 0, .getfield 26, .getfield 253, .iload_n 2, .isub, .invokevirtual 256, .ldc 163, .ireturn, .aload_n 0, .aload_n 1, .invokevirtual 260, .istore 4, .iload 4, .ifCond .ge 14, .aload_n 0, .iload_n 2, .iconst 2, .iload 4, .invokevirtual 256, .ldc 163]
def ac85_1 : List Instr := [.ireturn, .aload_n 0, .getfield 26, .getfield 253, .istore_n 2, .iinc 3 1, .goto (-80), .iload_n 3, .ireturn]
def ac85 : List Instr := ac85_0 ++ (ac85_1)
-- 86 CoatedBridges.noteFault(III)V
def pg86 : List AEnt := [(0, .aload 0, 1, 99), (1, .iload 1, 2, 99), (2, .putfield 505, 5, 99), (5, .aload 0, 6, 99), (6, .iload 2, 7, 99), (7, .putfield 506, 10, 99), (10, .aload 0, 11, 99), (11, .iload 3, 12, 99), (12, .putfield 507, 15, 99), (15, .return_, 16, 99)]
def ac86 : List Instr := [.aload_n 0, .iload_n 1, .putfield 234, .aload_n 0, .iload_n 2, .putfield 237, .aload_n 0, .iload_n 3, .putfield 240, .return_]
-- 87 CoatedBridges.obeyOrder(LCoatedBridges$State;)I
def pg87_0 : List AEnt := [(0, .aload 0, 1, 99), (1, .getfield 504, 4, 99), (4, .getfield 402, 7, 99), (7, .iconst (0), 8, 99), (8, .iaload, 9, 99), (9, .istore 2, 10, 99), (10, .aload 0, 11, 99), (11, .getfield 504, 14, 99), (14, .getfield 403, 17, 99), (17, .tableswitch 166 (98) (115) #[110, 166, 160, 166, 141, 166, 166, 104, 166, 166, 166, 166, 166, 166, 154, 166, 148, 134], 104, 99), (104, .aload 1, 105, 99), (105, .iload 2, 106, 99), (106, .invokevirtual 22, 109, 99), (109, .ireturn, 110, 99), (110, .aload 1, 111, 99), (111, .iload 2, 112, 99), (112, .aload 0, 113, 99), (113, .getfield 504, 116, 99), (116, .getfield 402, 119, 99), (119, .iconst (1), 120, 99), (120, .iaload, 121, 99), (121, .aload 0, 122, 99), (122, .getfield 504, 125, 99), (125, .getfield 402, 128, 99), (128, .iconst (2), 129, 99), (129, .iaload, 130, 99), (130, .invokevirtual 23, 133, 99), (133, .ireturn, 134, 99), (134, .aload 1, 135, 99), (135, .iload 2, 136, 99), (136, .iconst (0), 137, 99), (137, .invokevirtual 24, 140, 99), (140, .ireturn, 141, 99), (141, .aload 1, 142, 99), (142, .iload 2, 143, 99), (143, .iconst (1), 144, 99), (144, .invokevirtual 24, 147, 99), (147, .ireturn, 148, 99), (148, .aload 1, 149, 99), (149, .iload 2, 150, 99)]
def pg87_1 : List AEnt := [(150, .invokevirtual 25, 153, 99), (153, .ireturn, 154, 99), (154, .aload 1, 155, 99), (155, .iload 2, 156, 99), (156, .invokevirtual 26, 159, 99), (159, .ireturn, 160, 99), (160, .aload 1, 161, 99), (161, .iload 2, 162, 99), (162, .invokevirtual 28, 165, 99), (165, .ireturn, 166, 99), (166, .iconst (-1000001), 168, 99), (168, .ireturn, 169, 99)]
def pg87 : List AEnt := pg87_0 ++ (pg87_1)
def ac87_0 : List Instr := [.aload_n 0, .getfield 26, .getfield 263, .iconst 0, .iaload, .istore_n 2, .aload_n 0, .getfield 26, .getfield 266, .tableswitch 149 98 115 #[93, 149, 143, 149, 124, 149, 149, 87, 149, 149, 149, 149, 149, 149, 137, 149, 131, 117], .aload_n 1, .iload_n 2, .invokevirtual 34, .ireturn, .aload_n 1, .iload_n 2, .aload_n 0, .getfield 26, .getfield 263, .iconst 1, .iaload, .aload_n 0, .getfield 26, .getfield 263, .iconst 2, .iaload, .invokevirtual 41, .ireturn, .aload_n 1, .iload_n 2, .iconst 0, .invokevirtual 45, .ireturn, .aload_n 1, .iload_n 2, .iconst 1, .invokevirtual 45, .ireturn, .aload_n 1, .iload_n 2]
def ac87_1 : List Instr := [.invokevirtual 49, .ireturn, .aload_n 1, .iload_n 2, .invokevirtual 52, .ireturn, .aload_n 1, .iload_n 2, .invokevirtual 55, .ireturn, .ldc 65, .ireturn]
def ac87 : List Instr := ac87_0 ++ (ac87_1)
-- 88 CoatedBridges.holds(II)Z
def pg88 : List AEnt := [(0, .iload 0, 1, 99), (1, .iload 1, 2, 99), (2, .ishr, 3, 99), (3, .iconst (1), 4, 99), (4, .iand, 5, 99), (5, .iconst (1), 6, 99), (6, .if_icmp .ne 13, 9, 99), (9, .iconst (1), 10, 99), (10, .goto 14, 13, 99), (13, .iconst (0), 14, 99), (14, .freturn, 15, 99)]
def ac88 : List Instr := [.iload_n 0, .iload_n 1, .ishr, .iconst 1, .iand, .iconst 1, .if_icmp .ne 7, .iconst 1, .goto 4, .iconst 0, .ireturn]
-- 89 CoatedBridges.lowestIn(I)I
def pg89 : List AEnt := [(0, .iload 0, 1, 99), (1, .invokestatic 91, 4, 99), (4, .ireturn, 5, 99)]
def ac89 : List Instr := [.iload_n 0, .invokestatic 270, .ireturn]
-- 90 CoatedBridges.bitsOf(F)I
def pg90_0 : List AEnt := [(0, .fload 0, 1, 99), (1, .ldc 0, 2, 99), (2, .fcmp .l, 3, 99), (3, .ifCond .gt 8, 6, 99), (6, .iconst (0), 7, 99), (7, .ireturn, 8, 99), (8, .iconst (127), 10, 99), (10, .istore 1, 11, 99), (11, .fload 0, 12, 99), (12, .fstore 2, 13, 99), (13, .iconst (0), 14, 99), (14, .istore 3, 15, 99), (15, .iload 3, 16, 4), (16, .iconst (127), 18, 99), (18, .if_icmp .ge 40, 21, 99), (21, .fload 2, 22, 99), (22, .ldc 1073741824, 23, 99), (23, .fcmp .l, 24, 99), (24, .ifCond .lt 40, 27, 99), (27, .fload 2, 28, 99), (28, .ldc 1073741824, 29, 99), (29, .fdiv, 30, 99), (30, .fstore 2, 31, 99), (31, .iinc 1 (1), 34, 99), (34, .iinc 3 (1), 37, 99), (37, .goto 15, 40, 99), (40, .iconst (0), 41, 99), (41, .istore 3, 42, 99), (42, .iload 3, 43, 4), (43, .iconst (126), 45, 99), (45, .if_icmp .ge 67, 48, 99), (48, .fload 2, 49, 99), (49, .ldc 1065353216, 50, 99), (50, .fcmp .g, 51, 99), (51, .ifCond .ge 67, 54, 99), (54, .fload 2, 55, 99), (55, .ldc 1073741824, 56, 99), (56, .fmul, 57, 99), (57, .fstore 2, 58, 99), (58, .iinc 1 (-1), 61, 99)]
def pg90_1 : List AEnt := [(61, .iinc 3 (1), 64, 99), (64, .goto 42, 67, 99), (67, .iload 1, 68, 99), (68, .iconst (23), 70, 99), (70, .ishl, 71, 99), (71, .fload 2, 72, 99), (72, .ldc 1065353216, 73, 99), (73, .fsub, 74, 99), (74, .ldc 1258291200, 77, 99), (77, .fmul, 78, 99), (78, .f2i, 79, 99), (79, .ior, 80, 99), (80, .ireturn, 81, 99)]
def pg90 : List AEnt := pg90_0 ++ (pg90_1)
def ac90_0 : List Instr := [.fload_n 0, .fconst 0, .fcmp .l, .ifCond .gt 5, .iconst 0, .ireturn, .bipush 127, .istore_n 1, .fload_n 0, .fstore_n 2, .iconst 0, .istore_n 3, .iload_n 3, .bipush 127, .if_icmp .ge 22, .fload_n 2, .fconst 2, .fcmp .l, .ifCond .lt 16, .fload_n 2, .fconst 2, .fdiv, .fstore_n 2, .iinc 1 1, .iinc 3 1, .goto (-22), .iconst 0, .istore_n 3, .iload_n 3, .bipush 126, .if_icmp .ge 22, .fload_n 2, .fconst 1, .fcmp .g, .ifCond .ge 16, .fload_n 2, .fconst 2, .fmul, .fstore_n 2, .iinc 1 (-1)]
def ac90_1 : List Instr := [.iinc 3 1, .goto (-22), .iload_n 1, .bipush 23, .ishl, .fload_n 2, .fconst 1, .fsub, .ldc_w 275, .fmul, .f2i, .ior, .ireturn]
def ac90 : List Instr := ac90_0 ++ (ac90_1)
-- 91 java/lang/Integer.numberOfTrailingZeros(I)I
def pg91_0 : List AEnt := [(0, .iload 0, 1, 99), (1, .iconst (-1), 2, 99), (2, .ixor, 3, 99), (3, .iload 0, 4, 99), (4, .iconst (1), 5, 99), (5, .isub, 6, 99), (6, .iand, 7, 99), (7, .istore 0, 8, 99), (8, .iload 0, 9, 99), (9, .ifCond .gt 17, 12, 99), (12, .iload 0, 13, 99), (13, .iconst (32), 15, 99), (15, .iand, 16, 99), (16, .ireturn, 17, 99), (17, .iconst (1), 18, 99), (18, .istore 1, 19, 99), (19, .iload 0, 20, 99), (20, .iconst (65536), 23, 99), (23, .if_icmp .le 34, 26, 99), (26, .iinc 1 (16), 29, 99), (29, .iload 0, 30, 99), (30, .iconst (16), 32, 99), (32, .iushr, 33, 99), (33, .istore 0, 34, 99), (34, .iload 0, 35, 99), (35, .iconst (256), 38, 99), (38, .if_icmp .le 49, 41, 99), (41, .iinc 1 (8), 44, 99), (44, .iload 0, 45, 99), (45, .iconst (8), 47, 99), (47, .iushr, 48, 99), (48, .istore 0, 49, 99), (49, .iload 0, 50, 99), (50, .iconst (16), 52, 99), (52, .if_icmp .le 62, 55, 99), (55, .iinc 1 (4), 58, 99), (58, .iload 0, 59, 99), (59, .iconst (4), 60, 99), (60, .iushr, 61, 99), (61, .istore 0, 62, 99)]
def pg91_1 : List AEnt := [(62, .iload 0, 63, 99), (63, .iconst (4), 64, 99), (64, .if_icmp .le 74, 67, 99), (67, .iinc 1 (2), 70, 99), (70, .iload 0, 71, 99), (71, .iconst (2), 72, 99), (72, .iushr, 73, 99), (73, .istore 0, 74, 99), (74, .iload 1, 75, 99), (75, .iload 0, 76, 99), (76, .iconst (1), 77, 99), (77, .iushr, 78, 99), (78, .iadd, 79, 99), (79, .ireturn, 80, 99)]
def pg91 : List AEnt := pg91_0 ++ (pg91_1)
def ac91_0 : List Instr := [.iload_n 0, .iconst (-1), .ixor, .iload_n 0, .iconst 1, .isub, .iand, .istore_n 0, .iload_n 0, .ifCond .gt 8, .iload_n 0, .bipush 32, .iand, .ireturn, .iconst 1, .istore_n 1, .iload_n 0, .ldc_w 264, .if_icmp .le 11, .iinc 1 16, .iload_n 0, .bipush 16, .iushr, .istore_n 0, .iload_n 0, .sipush 256, .if_icmp .le 11, .iinc 1 8, .iload_n 0, .bipush 8, .iushr, .istore_n 0, .iload_n 0, .bipush 16, .if_icmp .le 10, .iinc 1 4, .iload_n 0, .iconst 4, .iushr, .istore_n 0]
def ac91_1 : List Instr := [.iload_n 0, .iconst 4, .if_icmp .le 10, .iinc 1 2, .iload_n 0, .iconst 2, .iushr, .istore_n 0, .iload_n 1, .iload_n 0, .iconst 1, .iushr, .iadd, .ireturn]
def ac91 : List Instr := ac91_0 ++ (ac91_1)
-- 92 java/lang/Integer.bitCount(I)I
def pg92_0 : List AEnt := [(0, .iload 0, 1, 99), (1, .iload 0, 2, 99), (2, .iconst (1), 3, 99), (3, .iushr, 4, 99), (4, .iconst (1431655765), 7, 99), (7, .iand, 8, 99), (8, .isub, 9, 99), (9, .istore 0, 10, 99), (10, .iload 0, 11, 99), (11, .iconst (858993459), 14, 99), (14, .iand, 15, 99), (15, .iload 0, 16, 99), (16, .iconst (2), 17, 99), (17, .iushr, 18, 99), (18, .iconst (858993459), 21, 99), (21, .iand, 22, 99), (22, .iadd, 23, 99), (23, .istore 0, 24, 99), (24, .iload 0, 25, 99), (25, .iload 0, 26, 99), (26, .iconst (4), 27, 99), (27, .iushr, 28, 99), (28, .iadd, 29, 99), (29, .iconst (252645135), 32, 99), (32, .iand, 33, 99), (33, .istore 0, 34, 99), (34, .iload 0, 35, 99), (35, .iload 0, 36, 99), (36, .iconst (8), 38, 99), (38, .iushr, 39, 99), (39, .iadd, 40, 99), (40, .istore 0, 41, 99), (41, .iload 0, 42, 99), (42, .iload 0, 43, 99), (43, .iconst (16), 45, 99), (45, .iushr, 46, 99), (46, .iadd, 47, 99), (47, .istore 0, 48, 99), (48, .iload 0, 49, 99), (49, .iconst (63), 51, 99)]
def pg92_1 : List AEnt := [(51, .iand, 52, 99), (52, .ireturn, 53, 99)]
def pg92 : List AEnt := pg92_0 ++ (pg92_1)
def ac92_0 : List Instr := [.iload_n 0, .iload_n 0, .iconst 1, .iushr, .ldc_w 265, .iand, .isub, .istore_n 0, .iload_n 0, .ldc_w 266, .iand, .iload_n 0, .iconst 2, .iushr, .ldc_w 266, .iand, .iadd, .istore_n 0, .iload_n 0, .iload_n 0, .iconst 4, .iushr, .iadd, .ldc_w 267, .iand, .istore_n 0, .iload_n 0, .iload_n 0, .bipush 8, .iushr, .iadd, .istore_n 0, .iload_n 0, .iload_n 0, .bipush 16, .iushr, .iadd, .istore_n 0, .iload_n 0, .bipush 63]
def ac92_1 : List Instr := [.iand, .ireturn]
def ac92 : List Instr := ac92_0 ++ (ac92_1)
-- 93 java/lang/Math.max(II)I
def pg93 : List AEnt := [(0, .iload 0, 1, 99), (1, .iload 1, 2, 99), (2, .if_icmp .lt 9, 5, 99), (5, .iload 0, 6, 99), (6, .goto 10, 9, 99), (9, .iload 1, 10, 99), (10, .ireturn, 11, 99)]
def ac93 : List Instr := [.iload_n 0, .iload_n 1, .if_icmp .lt 7, .iload_n 0, .goto 4, .iload_n 1, .ireturn]
-- 94 java/lang/Math.min(II)I
def pg94 : List AEnt := [(0, .iload 0, 1, 99), (1, .iload 1, 2, 99), (2, .if_icmp .gt 9, 5, 99), (5, .iload 0, 6, 99), (6, .goto 10, 9, 99), (9, .iload 1, 10, 99), (10, .ireturn, 11, 99)]
def ac94 : List Instr := [.iload_n 0, .iload_n 1, .if_icmp .gt 7, .iload_n 0, .goto 4, .iload_n 1, .ireturn]
-- 95 CoatedBridgesLaw.lot([II)I
def pg95 : List AEnt := [(0, .iload 1, 1, 99), (1, .aload 0, 2, 99), (2, .arraylength, 3, 99), (3, .if_icmp .ge 12, 6, 99), (6, .aload 0, 7, 99), (7, .iload 1, 8, 99), (8, .laload, 9, 99), (9, .goto 24, 12, 99), (12, .iconst (-169810581), 14, 99), (14, .iload 1, 15, 99), (15, .iconst (4327), 18, 99), (18, .iadd, 19, 99), (19, .imul, 20, 99), (20, .iconst (4091), 23, 99), (23, .iadd, 24, 99), (24, .ireturn, 25, 99)]
def ac95 : List Instr := [.iload_n 1, .aload_n 0, .arraylength, .if_icmp .ge 9, .aload_n 0, .iload_n 1, .iaload, .goto 15, .ldc 7, .iload_n 1, .sipush 4327, .iadd, .imul, .sipush 4091, .iadd, .ireturn]
-- 96 CoatedBridgesLaw.low(II)I
def pg96 : List AEnt := [(0, .iload 0, 1, 99), (1, .iconst (2147483647), 3, 99), (3, .iand, 4, 99), (4, .iload 1, 5, 99), (5, .irem, 6, 99), (6, .ireturn, 7, 99)]
def ac96 : List Instr := [.iload_n 0, .ldc 8, .iand, .iload_n 1, .irem, .ireturn]
-- 97 CoatedBridgesLaw.look(LCoatedBridges;)J
def pg97_0 : List AEnt := [(0, .ldc2_w 367, 3, 99), (3, .lstore 1, 4, 99), (4, .iconst (0), 5, 99), (5, .istore 3, 6, 99), (6, .iload 3, 7, 4), (7, .iconst (18), 9, 99), (9, .if_icmp .ge 31, 12, 99), (12, .ldc2_w 31, 15, 99), (15, .lload 1, 16, 99), (16, .lmul, 17, 99), (17, .aload 0, 18, 99), (18, .iload 3, 19, 99), (19, .invokevirtual 76, 22, 99), (22, .i2l, 23, 99), (23, .ladd, 24, 99), (24, .lstore 1, 25, 99), (25, .iinc 3 (1), 28, 99), (28, .goto 6, 31, 99), (31, .iconst (20), 33, 99), (33, .istore 3, 34, 99), (34, .iload 3, 35, 4), (35, .iconst (28), 37, 99), (37, .if_icmp .ge 59, 40, 99), (40, .ldc2_w 31, 43, 99), (43, .lload 1, 44, 99), (44, .lmul, 45, 99), (45, .aload 0, 46, 99), (46, .iload 3, 47, 99), (47, .invokevirtual 76, 50, 99), (50, .i2l, 51, 99), (51, .ladd, 52, 99), (52, .lstore 1, 53, 99), (53, .iinc 3 (1), 56, 99), (56, .goto 34, 59, 99), (59, .iconst (0), 60, 99), (60, .istore 3, 61, 99), (61, .iload 3, 62, 4), (62, .aload 0, 63, 99), (63, .iconst (2), 64, 99), (64, .invokevirtual 76, 67, 99)]
def pg97_1 : List AEnt := [(67, .if_icmp .ge 107, 70, 99), (70, .iconst (0), 71, 99), (71, .istore 4, 73, 99), (73, .iload 4, 75, 5), (75, .iconst (8), 77, 99), (77, .if_icmp .ge 101, 80, 99), (80, .ldc2_w 31, 83, 99), (83, .lload 1, 84, 99), (84, .lmul, 85, 99), (85, .aload 0, 86, 99), (86, .iload 3, 87, 99), (87, .iload 4, 89, 99), (89, .invokevirtual 65, 92, 99), (92, .i2l, 93, 99), (93, .ladd, 94, 99), (94, .lstore 1, 95, 99), (95, .iinc 4 (1), 98, 99), (98, .goto 73, 101, 99), (101, .iinc 3 (1), 104, 99), (104, .goto 61, 107, 99), (107, .iconst (0), 108, 99), (108, .istore 3, 109, 99), (109, .iload 3, 110, 4), (110, .aload 0, 111, 99), (111, .iconst (1), 112, 99), (112, .invokevirtual 76, 115, 99), (115, .if_icmp .ge 155, 118, 99), (118, .iconst (1), 119, 99), (119, .istore 4, 121, 99), (121, .iload 4, 123, 5), (123, .iconst (6), 125, 99), (125, .if_icmp .ge 149, 128, 99), (128, .ldc2_w 31, 131, 99), (131, .lload 1, 132, 99), (132, .lmul, 133, 99), (133, .aload 0, 134, 99), (134, .iload 3, 135, 99), (135, .iload 4, 137, 99), (137, .invokevirtual 66, 140, 99), (140, .i2l, 141, 99)]
def pg97_2 : List AEnt := [(141, .ladd, 142, 99), (142, .lstore 1, 143, 99), (143, .iinc 4 (1), 146, 99), (146, .goto 121, 149, 99), (149, .iinc 3 (1), 152, 99), (152, .goto 109, 155, 99), (155, .iconst (0), 156, 99), (156, .istore 3, 157, 99), (157, .iload 3, 158, 4), (158, .aload 0, 159, 99), (159, .iconst (17), 161, 99), (161, .invokevirtual 76, 164, 99), (164, .if_icmp .ge 199, 167, 99), (167, .ldc2_w 31, 170, 99), (170, .ldc2_w 31, 173, 99), (173, .lload 1, 174, 99), (174, .lmul, 175, 99), (175, .aload 0, 176, 99), (176, .iload 3, 177, 99), (177, .iconst (0), 178, 99), (178, .invokevirtual 68, 181, 99), (181, .i2l, 182, 99), (182, .ladd, 183, 99), (183, .lmul, 184, 99), (184, .aload 0, 185, 99), (185, .iload 3, 186, 99), (186, .iconst (1), 187, 99), (187, .invokevirtual 68, 190, 99), (190, .i2l, 191, 99), (191, .ladd, 192, 99), (192, .lstore 1, 193, 99), (193, .iinc 3 (1), 196, 99), (196, .goto 157, 199, 99), (199, .lload 1, 200, 99), (200, .lreturn, 201, 99)]
def pg97 : List AEnt := pg97_0 ++ (pg97_1 ++ (pg97_2))
def ac97_0 : List Instr := [.ldc2_w 9, .lstore_n 1, .iconst 0, .istore_n 3, .iload_n 3, .bipush 18, .if_icmp .ge 22, .ldc2_w 11, .lload_n 1, .lmul, .aload_n 0, .iload_n 3, .invokevirtual 13, .i2l, .ladd, .lstore_n 1, .iinc 3 1, .goto (-22), .bipush 20, .istore_n 3, .iload_n 3, .bipush 28, .if_icmp .ge 22, .ldc2_w 11, .lload_n 1, .lmul, .aload_n 0, .iload_n 3, .invokevirtual 13, .i2l, .ladd, .lstore_n 1, .iinc 3 1, .goto (-22), .iconst 0, .istore_n 3, .iload_n 3, .aload_n 0, .iconst 2, .invokevirtual 13]
def ac97_1 : List Instr := [.if_icmp .ge 40, .iconst 0, .istore 4, .iload 4, .bipush 8, .if_icmp .ge 24, .ldc2_w 11, .lload_n 1, .lmul, .aload_n 0, .iload_n 3, .iload 4, .invokevirtual 19, .i2l, .ladd, .lstore_n 1, .iinc 4 1, .goto (-25), .iinc 3 1, .goto (-43), .iconst 0, .istore_n 3, .iload_n 3, .aload_n 0, .iconst 1, .invokevirtual 13, .if_icmp .ge 40, .iconst 1, .istore 4, .iload 4, .bipush 6, .if_icmp .ge 24, .ldc2_w 11, .lload_n 1, .lmul, .aload_n 0, .iload_n 3, .iload 4, .invokevirtual 23, .i2l]
def ac97_2 : List Instr := [.ladd, .lstore_n 1, .iinc 4 1, .goto (-25), .iinc 3 1, .goto (-43), .iconst 0, .istore_n 3, .iload_n 3, .aload_n 0, .bipush 17, .invokevirtual 13, .if_icmp .ge 35, .ldc2_w 11, .ldc2_w 11, .lload_n 1, .lmul, .aload_n 0, .iload_n 3, .iconst 0, .invokevirtual 26, .i2l, .ladd, .lmul, .aload_n 0, .iload_n 3, .iconst 1, .invokevirtual 26, .i2l, .ladd, .lstore_n 1, .iinc 3 1, .goto (-39), .lload_n 1, .lreturn]
def ac97 : List Instr := ac97_0 ++ (ac97_1 ++ (ac97_2))
-- 98 CoatedBridgesLaw.holds(LCoatedBridges;)Z
def pg98_0 : List AEnt := [(0, .aload 0, 1, 99), (1, .iconst (1), 2, 99), (2, .invokevirtual 76, 5, 99), (5, .istore 1, 6, 99), (6, .aload 0, 7, 99), (7, .iconst (2), 8, 99), (8, .invokevirtual 76, 11, 99), (11, .istore 2, 12, 99), (12, .iconst (1), 13, 99), (13, .istore 3, 14, 99), (14, .iconst (0), 15, 99), (15, .istore 4, 17, 99), (17, .iconst (0), 18, 99), (18, .istore 5, 20, 99), (20, .iconst (0), 21, 99), (21, .istore 6, 23, 99), (23, .iconst (0), 24, 99), (24, .istore 7, 26, 99), (26, .iconst (0), 27, 99), (27, .istore 8, 29, 99), (29, .iload 8, 31, 9), (31, .iconst (8), 33, 99), (33, .if_icmp .ge 104, 36, 99), (36, .iconst (0), 37, 99), (37, .istore 9, 39, 99), (39, .iload 9, 41, 10), (41, .iload 2, 42, 99), (42, .if_icmp .ge 98, 45, 99), (45, .iconst (1), 46, 99), (46, .aload 0, 47, 99), (47, .iload 9, 49, 99), (49, .iconst (0), 50, 99), (50, .invokevirtual 65, 53, 99), (53, .ishl, 54, 99), (54, .iconst (1), 55, 99), (55, .aload 0, 56, 99), (56, .iload 9, 58, 99), (58, .iconst (1), 59, 99), (59, .invokevirtual 65, 62, 99), (62, .ishl, 63, 99)]
def pg98_1 : List AEnt := [(63, .ior, 64, 99), (64, .istore 10, 66, 99), (66, .iload 3, 67, 99), (67, .aload 0, 68, 99), (68, .iload 9, 70, 99), (70, .iconst (4), 71, 99), (71, .invokevirtual 65, 74, 99), (74, .ifCond .ne 89, 77, 99), (77, .iload 3, 78, 99), (78, .iload 10, 80, 99), (80, .iand, 81, 99), (81, .ifCond .eq 89, 84, 99), (84, .iload 10, 86, 99), (86, .goto 90, 89, 99), (89, .iconst (0), 90, 99), (90, .ior, 91, 99), (91, .istore 3, 92, 99), (92, .iinc 9 (1), 95, 99), (95, .goto 39, 98, 99), (98, .iinc 8 (1), 101, 99), (101, .goto 29, 104, 99), (104, .aload 0, 105, 99), (105, .iconst (3), 106, 99), (106, .invokevirtual 76, 109, 99), (109, .iload 3, 110, 99), (110, .if_icmp .ne 187, 113, 99), (113, .iload 1, 114, 99), (114, .iconst (1), 115, 99), (115, .if_icmp .lt 187, 118, 99), (118, .iload 1, 119, 99), (119, .iconst (8), 121, 99), (121, .if_icmp .gt 187, 124, 99), (124, .iload 2, 125, 99), (125, .iconst (14), 127, 99), (127, .if_icmp .gt 187, 130, 99), (130, .iconst (200), 133, 99), (133, .aload 0, 134, 99), (134, .iconst (16), 136, 99), (136, .invokevirtual 76, 139, 99), (139, .iadd, 140, 99)]
def pg98_2 : List AEnt := [(140, .aload 0, 141, 99), (141, .iconst (13), 143, 99), (143, .invokevirtual 76, 146, 99), (146, .aload 0, 147, 99), (147, .iconst (14), 149, 99), (149, .invokevirtual 76, 152, 99), (152, .iadd, 153, 99), (153, .aload 0, 154, 99), (154, .iconst (15), 156, 99), (156, .invokevirtual 76, 159, 99), (159, .iadd, 160, 99), (160, .if_icmp .ne 187, 163, 99), (163, .aload 0, 164, 99), (164, .iconst (13), 166, 99), (166, .invokevirtual 76, 169, 99), (169, .ifCond .lt 187, 172, 99), (172, .aload 0, 173, 99), (173, .iconst (0), 174, 99), (174, .invokevirtual 76, 177, 99), (177, .iconst (9999), 180, 99), (180, .if_icmp .gt 187, 183, 99), (183, .iconst (1), 184, 99), (184, .goto 188, 187, 99), (187, .iconst (0), 188, 99), (188, .istore 8, 190, 99), (190, .iconst (0), 191, 99), (191, .istore 9, 193, 99), (193, .iload 9, 195, 10), (195, .iload 2, 196, 99), (196, .if_icmp .ge 383, 199, 99), (199, .iload 8, 201, 99), (201, .ifCond .eq 383, 204, 99), (204, .aload 0, 205, 99), (205, .iload 9, 207, 99), (207, .iconst (3), 208, 99), (208, .invokevirtual 65, 211, 99), (211, .istore 10, 213, 99), (213, .iload 6, 215, 99), (215, .aload 0, 216, 99), (216, .iload 9, 218, 99)]
def pg98_3 : List AEnt := [(218, .iconst (4), 219, 99), (219, .invokevirtual 65, 222, 99), (222, .iconst (1), 223, 99), (223, .if_icmp .ne 230, 226, 99), (226, .iconst (1), 227, 99), (227, .goto 231, 230, 99), (230, .iconst (0), 231, 99), (231, .iadd, 232, 11), (232, .istore 6, 234, 99), (234, .iload 10, 236, 99), (236, .ifCond .lt 374, 239, 99), (239, .iload 10, 241, 99), (241, .iconst (100), 243, 99), (243, .if_icmp .gt 374, 246, 99), (246, .aload 0, 247, 99), (247, .iload 9, 249, 99), (249, .iconst (0), 250, 99), (250, .invokevirtual 65, 253, 99), (253, .aload 0, 254, 99), (254, .iload 9, 256, 99), (256, .iconst (1), 257, 99), (257, .invokevirtual 65, 260, 99), (260, .if_icmp .eq 374, 263, 99), (263, .aload 0, 264, 99), (264, .iload 9, 266, 99), (266, .iconst (6), 268, 99), (268, .invokevirtual 65, 271, 99), (271, .aload 0, 272, 99), (272, .iconst (0), 273, 99), (273, .invokevirtual 76, 276, 99), (276, .if_icmp .gt 374, 279, 99), (279, .aload 0, 280, 99), (280, .iload 9, 282, 99), (282, .iconst (4), 283, 99), (283, .invokevirtual 65, 286, 99), (286, .ifCond .ne 297, 289, 99), (289, .aload 0, 290, 99), (290, .iconst (4), 291, 99), (291, .invokevirtual 76, 294, 99), (294, .goto 322, 297, 99)]
def pg98_4 : List AEnt := [(297, .aload 0, 298, 99), (298, .iload 9, 300, 99), (300, .iconst (4), 301, 99), (301, .invokevirtual 65, 304, 99), (304, .iconst (1), 305, 99), (305, .if_icmp .ne 316, 308, 99), (308, .aload 0, 309, 99), (309, .iconst (5), 310, 99), (310, .invokevirtual 76, 313, 99), (313, .goto 322, 316, 99), (316, .aload 0, 317, 99), (317, .iconst (6), 319, 99), (319, .invokevirtual 76, 322, 99), (322, .iload 9, 324, 11), (324, .ishr, 325, 99), (325, .iconst (1), 326, 99), (326, .iand, 327, 99), (327, .iconst (1), 328, 99), (328, .if_icmp .ne 374, 331, 99), (331, .aload 0, 332, 99), (332, .iload 9, 334, 99), (334, .iconst (4), 335, 99), (335, .invokevirtual 65, 338, 99), (338, .iconst (1), 339, 99), (339, .if_icmp .ne 352, 342, 99), (342, .aload 0, 343, 99), (343, .iload 9, 345, 99), (345, .iconst (5), 346, 99), (346, .invokevirtual 65, 349, 99), (349, .ifCond .le 374, 352, 99), (352, .aload 0, 353, 99), (353, .iload 9, 355, 99), (355, .iconst (4), 356, 99), (356, .invokevirtual 65, 359, 99), (359, .iconst (1), 360, 99), (360, .if_icmp .ne 370, 363, 99), (363, .iload 10, 365, 99), (365, .iconst (100), 367, 99), (367, .if_icmp .ge 374, 370, 99), (370, .iconst (1), 371, 99)]
def pg98_5 : List AEnt := [(371, .goto 375, 374, 99), (374, .iconst (0), 375, 99), (375, .istore 8, 377, 99), (377, .iinc 9 (1), 380, 99), (380, .goto 193, 383, 99), (383, .iconst (0), 384, 99), (384, .istore 9, 386, 99), (386, .iload 9, 388, 10), (388, .iload 1, 389, 99), (389, .if_icmp .ge 568, 392, 99), (392, .iload 8, 394, 99), (394, .ifCond .eq 568, 397, 99), (397, .iload 4, 399, 99), (399, .iload 5, 401, 99), (401, .iload 9, 403, 99), (403, .ishr, 404, 99), (404, .iconst (1), 405, 99), (405, .iand, 406, 99), (406, .ifCond .ne 413, 409, 99), (409, .iconst (1), 410, 99), (410, .goto 414, 413, 99), (413, .iconst (0), 414, 99), (414, .iadd, 415, 10), (415, .istore 4, 417, 99), (417, .iload 5, 419, 99), (419, .aload 0, 420, 99), (420, .iload 9, 422, 99), (422, .invokevirtual 67, 425, 99), (425, .ior, 426, 99), (426, .istore 5, 428, 99), (428, .iload 7, 430, 99), (430, .aload 0, 431, 99), (431, .iload 9, 433, 99), (433, .iconst (5), 434, 99), (434, .invokevirtual 66, 437, 99), (437, .iadd, 438, 99), (438, .istore 7, 440, 99), (440, .aload 0, 441, 99), (441, .iload 9, 443, 99), (443, .invokevirtual 67, 446, 99)]
def pg98_6 : List AEnt := [(446, .iload 3, 447, 99), (447, .if_icmp .ne 454, 450, 99), (450, .iconst (1), 451, 99), (451, .goto 455, 454, 99), (454, .iconst (0), 455, 99), (455, .iload 3, 456, 99), (456, .iload 9, 458, 99), (458, .ishr, 459, 99), (459, .iconst (1), 460, 99), (460, .iand, 461, 99), (461, .iconst (1), 462, 99), (462, .if_icmp .ne 469, 465, 99), (465, .iconst (1), 466, 99), (466, .goto 470, 469, 99), (469, .iconst (0), 470, 99), (470, .if_icmp .ne 559, 473, 10), (473, .aload 0, 474, 99), (474, .iload 9, 476, 99), (476, .iconst (7), 478, 99), (478, .invokevirtual 66, 481, 99), (481, .iconst (-1000004), 483, 99), (483, .if_icmp .ne 490, 486, 99), (486, .iconst (1), 487, 99), (487, .goto 491, 490, 99), (490, .iconst (0), 491, 99), (491, .iload 3, 492, 99), (492, .iload 9, 494, 99), (494, .ishr, 495, 99), (495, .iconst (1), 496, 99), (496, .iand, 497, 99), (497, .ifCond .ne 504, 500, 99), (500, .iconst (1), 501, 99), (501, .goto 505, 504, 99), (504, .iconst (0), 505, 99), (505, .if_icmp .ne 559, 508, 10), (508, .aload 0, 509, 99), (509, .iload 9, 511, 99), (511, .iconst (1), 512, 99), (512, .invokevirtual 66, 515, 99), (515, .aload 0, 516, 99)]
def pg98_7 : List AEnt := [(516, .iload 9, 518, 99), (518, .iconst (4), 519, 99), (519, .invokevirtual 66, 522, 99), (522, .if_icmp .gt 559, 525, 99), (525, .aload 0, 526, 99), (526, .iload 9, 528, 99), (528, .iconst (4), 529, 99), (529, .invokevirtual 66, 532, 99), (532, .aload 0, 533, 99), (533, .iconst (0), 534, 99), (534, .invokevirtual 76, 537, 99), (537, .if_icmp .gt 559, 540, 99), (540, .aload 0, 541, 99), (541, .iload 9, 543, 99), (543, .iconst (3), 544, 99), (544, .invokevirtual 66, 547, 99), (547, .aload 0, 548, 99), (548, .iconst (0), 549, 99), (549, .invokevirtual 76, 552, 99), (552, .if_icmp .gt 559, 555, 99), (555, .iconst (1), 556, 99), (556, .goto 560, 559, 99), (559, .iconst (0), 560, 99), (560, .istore 8, 562, 99), (562, .iinc 9 (1), 565, 99), (565, .goto 386, 568, 99), (568, .iconst (0), 569, 99), (569, .istore 9, 571, 99), (571, .iload 9, 573, 10), (573, .aload 0, 574, 99), (574, .iconst (17), 576, 99), (576, .invokevirtual 76, 579, 99), (579, .if_icmp .ge 649, 582, 99), (582, .iload 8, 584, 99), (584, .ifCond .eq 649, 587, 99), (587, .aload 0, 588, 99), (588, .iload 9, 590, 99), (590, .iconst (1), 591, 99), (591, .invokevirtual 68, 594, 99), (594, .ifCond .le 640, 597, 99)]
def pg98_8 : List AEnt := [(597, .aload 0, 598, 99), (598, .iload 9, 600, 99), (600, .iconst (0), 601, 99), (601, .invokevirtual 68, 604, 99), (604, .aload 0, 605, 99), (605, .iconst (0), 606, 99), (606, .invokevirtual 76, 609, 99), (609, .if_icmp .ge 640, 612, 99), (612, .iload 9, 614, 99), (614, .ifCond .eq 636, 617, 99), (617, .aload 0, 618, 99), (618, .iload 9, 620, 99), (620, .iconst (0), 621, 99), (621, .invokevirtual 68, 624, 99), (624, .aload 0, 625, 99), (625, .iload 9, 627, 99), (627, .iconst (1), 628, 99), (628, .isub, 629, 99), (629, .iconst (0), 630, 99), (630, .invokevirtual 68, 633, 99), (633, .if_icmp .ge 640, 636, 99), (636, .iconst (1), 637, 99), (637, .goto 641, 640, 99), (640, .iconst (0), 641, 99), (641, .istore 8, 643, 99), (643, .iinc 9 (1), 646, 99), (646, .goto 571, 649, 99), (649, .iload 8, 651, 10), (651, .ifCond .eq 791, 654, 99), (654, .aload 0, 655, 99), (655, .iconst (8), 657, 99), (657, .invokevirtual 76, 660, 99), (660, .iload 4, 662, 99), (662, .if_icmp .ne 791, 665, 99), (665, .aload 0, 666, 99), (666, .iconst (9), 668, 99), (668, .invokevirtual 76, 671, 99), (671, .iload 4, 673, 99), (673, .if_icmp .ne 791, 676, 99), (676, .aload 0, 677, 99)]
def pg98_9 : List AEnt := [(677, .iconst (10), 679, 99), (679, .invokevirtual 76, 682, 99), (682, .aload 0, 683, 99), (683, .iconst (20), 685, 99), (685, .invokevirtual 76, 688, 99), (688, .iload 6, 690, 99), (690, .if_icmp .le 705, 693, 99), (693, .aload 0, 694, 99), (694, .iconst (20), 696, 99), (696, .invokevirtual 76, 699, 99), (699, .iload 6, 701, 99), (701, .isub, 702, 99), (702, .goto 706, 705, 99), (705, .iconst (0), 706, 99), (706, .if_icmp .ne 791, 709, 10), (709, .aload 0, 710, 99), (710, .iconst (17), 712, 99), (712, .invokevirtual 76, 715, 99), (715, .ifCond .ne 722, 718, 99), (718, .iconst (1), 719, 99), (719, .goto 723, 722, 99), (722, .iconst (0), 723, 99), (723, .aload 0, 724, 99), (724, .iconst (11), 726, 99), (726, .invokevirtual 76, 729, 99), (729, .ifCond .ne 736, 732, 99), (732, .iconst (1), 733, 99), (733, .goto 737, 736, 99), (736, .iconst (0), 737, 99), (737, .if_icmp .ne 791, 740, 10), (740, .aload 0, 741, 99), (741, .invokevirtual 75, 744, 99), (744, .iconst (-1000004), 746, 99), (746, .if_icmp .ne 753, 749, 99), (749, .iconst (1), 750, 99), (750, .goto 754, 753, 99), (753, .iconst (0), 754, 99), (754, .iload 2, 755, 99), (755, .ifCond .ne 762, 758, 99), (758, .iconst (1), 759, 99)]
def pg98_10 : List AEnt := [(759, .goto 763, 762, 99), (762, .iconst (0), 763, 99), (763, .if_icmp .ne 791, 766, 99), (766, .iload 7, 768, 99), (768, .ifCond .lt 791, 771, 99), (771, .aload 0, 772, 99), (772, .aload 0, 773, 99), (773, .iconst (17), 775, 99), (775, .invokevirtual 76, 778, 99), (778, .iconst (0), 779, 99), (779, .invokevirtual 68, 782, 99), (782, .iconst (-1000004), 784, 99), (784, .if_icmp .ne 791, 787, 99), (787, .iconst (1), 788, 99), (788, .goto 792, 791, 99), (791, .iconst (0), 792, 99), (792, .freturn, 793, 99)]
def pg98 : List AEnt := pg98_0 ++ (pg98_1 ++ (pg98_2 ++ (pg98_3 ++ (pg98_4 ++ (pg98_5 ++ (pg98_6 ++ (pg98_7 ++ (pg98_8 ++ (pg98_9 ++ (pg98_10))))))))))
def ac98_0 : List Instr := [.aload_n 0, .iconst 1, .invokevirtual 13, .istore_n 1, .aload_n 0, .iconst 2, .invokevirtual 13, .istore_n 2, .iconst 1, .istore_n 3, .iconst 0, .istore 4, .iconst 0, .istore 5, .iconst 0, .istore 6, .iconst 0, .istore 7, .iconst 0, .istore 8, .iload 8, .bipush 8, .if_icmp .ge 71, .iconst 0, .istore 9, .iload 9, .iload_n 2, .if_icmp .ge 56, .iconst 1, .aload_n 0, .iload 9, .iconst 0, .invokevirtual 19, .ishl, .iconst 1, .aload_n 0, .iload 9, .iconst 1, .invokevirtual 19, .ishl]
def ac98_1 : List Instr := [.ior, .istore 10, .iload_n 3, .aload_n 0, .iload 9, .iconst 4, .invokevirtual 19, .ifCond .ne 15, .iload_n 3, .iload 10, .iand, .ifCond .eq 8, .iload 10, .goto 4, .iconst 0, .ior, .istore_n 3, .iinc 9 1, .goto (-56), .iinc 8 1, .goto (-72), .aload_n 0, .iconst 3, .invokevirtual 13, .iload_n 3, .if_icmp .ne 77, .iload_n 1, .iconst 1, .if_icmp .lt 72, .iload_n 1, .bipush 8, .if_icmp .gt 66, .iload_n 2, .bipush 14, .if_icmp .gt 60, .sipush 200, .aload_n 0, .bipush 16, .invokevirtual 13, .iadd]
def ac98_2 : List Instr := [.aload_n 0, .bipush 13, .invokevirtual 13, .aload_n 0, .bipush 14, .invokevirtual 13, .iadd, .aload_n 0, .bipush 15, .invokevirtual 13, .iadd, .if_icmp .ne 27, .aload_n 0, .bipush 13, .invokevirtual 13, .ifCond .lt 18, .aload_n 0, .iconst 0, .invokevirtual 13, .sipush 9999, .if_icmp .gt 7, .iconst 1, .goto 4, .iconst 0, .istore 8, .iconst 0, .istore 9, .iload 9, .iload_n 2, .if_icmp .ge 187, .iload 8, .ifCond .eq 182, .aload_n 0, .iload 9, .iconst 3, .invokevirtual 19, .istore 10, .iload 6, .aload_n 0, .iload 9]
def ac98_3 : List Instr := [.iconst 4, .invokevirtual 19, .iconst 1, .if_icmp .ne 7, .iconst 1, .goto 4, .iconst 0, .iadd, .istore 6, .iload 10, .ifCond .lt 138, .iload 10, .bipush 100, .if_icmp .gt 131, .aload_n 0, .iload 9, .iconst 0, .invokevirtual 19, .aload_n 0, .iload 9, .iconst 1, .invokevirtual 19, .if_icmp .eq 114, .aload_n 0, .iload 9, .bipush 6, .invokevirtual 19, .aload_n 0, .iconst 0, .invokevirtual 13, .if_icmp .gt 98, .aload_n 0, .iload 9, .iconst 4, .invokevirtual 19, .ifCond .ne 11, .aload_n 0, .iconst 4, .invokevirtual 13, .goto 28]
def ac98_4 : List Instr := [.aload_n 0, .iload 9, .iconst 4, .invokevirtual 19, .iconst 1, .if_icmp .ne 11, .aload_n 0, .iconst 5, .invokevirtual 13, .goto 9, .aload_n 0, .bipush 6, .invokevirtual 13, .iload 9, .ishr, .iconst 1, .iand, .iconst 1, .if_icmp .ne 46, .aload_n 0, .iload 9, .iconst 4, .invokevirtual 19, .iconst 1, .if_icmp .ne 13, .aload_n 0, .iload 9, .iconst 5, .invokevirtual 19, .ifCond .le 25, .aload_n 0, .iload 9, .iconst 4, .invokevirtual 19, .iconst 1, .if_icmp .ne 10, .iload 10, .bipush 100, .if_icmp .ge 7, .iconst 1]
def ac98_5 : List Instr := [.goto 4, .iconst 0, .istore 8, .iinc 9 1, .goto (-187), .iconst 0, .istore 9, .iload 9, .iload_n 1, .if_icmp .ge 179, .iload 8, .ifCond .eq 174, .iload 4, .iload 5, .iload 9, .ishr, .iconst 1, .iand, .ifCond .ne 7, .iconst 1, .goto 4, .iconst 0, .iadd, .istore 4, .iload 5, .aload_n 0, .iload 9, .invokevirtual 29, .ior, .istore 5, .iload 7, .aload_n 0, .iload 9, .iconst 5, .invokevirtual 23, .iadd, .istore 7, .aload_n 0, .iload 9, .invokevirtual 29]
def ac98_6 : List Instr := [.iload_n 3, .if_icmp .ne 7, .iconst 1, .goto 4, .iconst 0, .iload_n 3, .iload 9, .ishr, .iconst 1, .iand, .iconst 1, .if_icmp .ne 7, .iconst 1, .goto 4, .iconst 0, .if_icmp .ne 89, .aload_n 0, .iload 9, .bipush 7, .invokevirtual 23, .ldc 34, .if_icmp .ne 7, .iconst 1, .goto 4, .iconst 0, .iload_n 3, .iload 9, .ishr, .iconst 1, .iand, .ifCond .ne 7, .iconst 1, .goto 4, .iconst 0, .if_icmp .ne 54, .aload_n 0, .iload 9, .iconst 1, .invokevirtual 23, .aload_n 0]
def ac98_7 : List Instr := [.iload 9, .iconst 4, .invokevirtual 23, .if_icmp .gt 37, .aload_n 0, .iload 9, .iconst 4, .invokevirtual 23, .aload_n 0, .iconst 0, .invokevirtual 13, .if_icmp .gt 22, .aload_n 0, .iload 9, .iconst 3, .invokevirtual 23, .aload_n 0, .iconst 0, .invokevirtual 13, .if_icmp .gt 7, .iconst 1, .goto 4, .iconst 0, .istore 8, .iinc 9 1, .goto (-179), .iconst 0, .istore 9, .iload 9, .aload_n 0, .bipush 17, .invokevirtual 13, .if_icmp .ge 70, .iload 8, .ifCond .eq 65, .aload_n 0, .iload 9, .iconst 1, .invokevirtual 26, .ifCond .le 46]
def ac98_8 : List Instr := [.aload_n 0, .iload 9, .iconst 0, .invokevirtual 26, .aload_n 0, .iconst 0, .invokevirtual 13, .if_icmp .ge 31, .iload 9, .ifCond .eq 22, .aload_n 0, .iload 9, .iconst 0, .invokevirtual 26, .aload_n 0, .iload 9, .iconst 1, .isub, .iconst 0, .invokevirtual 26, .if_icmp .ge 7, .iconst 1, .goto 4, .iconst 0, .istore 8, .iinc 9 1, .goto (-75), .iload 8, .ifCond .eq 140, .aload_n 0, .bipush 8, .invokevirtual 13, .iload 4, .if_icmp .ne 129, .aload_n 0, .bipush 9, .invokevirtual 13, .iload 4, .if_icmp .ne 118, .aload_n 0]
def ac98_9 : List Instr := [.bipush 10, .invokevirtual 13, .aload_n 0, .bipush 20, .invokevirtual 13, .iload 6, .if_icmp .le 15, .aload_n 0, .bipush 20, .invokevirtual 13, .iload 6, .isub, .goto 4, .iconst 0, .if_icmp .ne 85, .aload_n 0, .bipush 17, .invokevirtual 13, .ifCond .ne 7, .iconst 1, .goto 4, .iconst 0, .aload_n 0, .bipush 11, .invokevirtual 13, .ifCond .ne 7, .iconst 1, .goto 4, .iconst 0, .if_icmp .ne 54, .aload_n 0, .invokevirtual 35, .ldc 34, .if_icmp .ne 7, .iconst 1, .goto 4, .iconst 0, .iload_n 2, .ifCond .ne 7, .iconst 1]
def ac98_10 : List Instr := [.goto 4, .iconst 0, .if_icmp .ne 28, .iload 7, .ifCond .lt 23, .aload_n 0, .aload_n 0, .bipush 17, .invokevirtual 13, .iconst 0, .invokevirtual 26, .ldc 34, .if_icmp .ne 7, .iconst 1, .goto 4, .iconst 0, .ireturn]
def ac98 : List Instr := ac98_0 ++ (ac98_1 ++ (ac98_2 ++ (ac98_3 ++ (ac98_4 ++ (ac98_5 ++ (ac98_6 ++ (ac98_7 ++ (ac98_8 ++ (ac98_9 ++ (ac98_10))))))))))
-- 99 CoatedBridgesLaw.would(LCoatedBridges;I)Z
def pg99_0 : List AEnt := [(0, .aload 0, 1, 99), (1, .iconst (2), 2, 99), (2, .invokevirtual 76, 5, 99), (5, .istore 2, 6, 99), (6, .iload 1, 7, 99), (7, .iload 2, 8, 99), (8, .iconst (1), 9, 99), (9, .iadd, 10, 99), (10, .invokestatic 96, 13, 99), (13, .istore 3, 14, 99), (14, .aload 0, 15, 99), (15, .iload 3, 16, 99), (16, .iconst (0), 17, 99), (17, .invokevirtual 69, 20, 99), (20, .istore 4, 22, 99), (22, .aload 0, 23, 99), (23, .iload 3, 24, 99), (24, .iconst (1), 25, 99), (25, .invokevirtual 69, 28, 99), (28, .istore 5, 30, 99), (30, .aload 0, 31, 99), (31, .iload 3, 32, 99), (32, .invokevirtual 71, 35, 99), (35, .istore 6, 37, 99), (37, .aload 0, 38, 99), (38, .iload 3, 39, 99), (39, .invokevirtual 72, 42, 99), (42, .istore 7, 44, 99), (44, .aload 0, 45, 99), (45, .invokevirtual 70, 48, 99), (48, .istore 8, 50, 99), (50, .aload 0, 51, 99), (51, .invokevirtual 73, 54, 99), (54, .istore 9, 56, 99), (56, .iload 1, 57, 99), (57, .iconst (5), 58, 99), (58, .ishr, 59, 99), (59, .iconst (101), 61, 99), (61, .invokestatic 96, 64, 99), (64, .istore 10, 66, 99)]
def pg99_1 : List AEnt := [(66, .aload 0, 67, 99), (67, .iload 10, 69, 99), (69, .invokevirtual 74, 72, 99), (72, .istore 11, 74, 99), (74, .iload 3, 75, 99), (75, .iload 2, 76, 99), (76, .if_icmp .ne 115, 79, 99), (79, .iload 4, 81, 99), (81, .iconst (-1000001), 83, 99), (83, .if_icmp .ne 111, 86, 99), (86, .iload 5, 88, 99), (88, .iconst (-1000001), 90, 99), (90, .if_icmp .ne 111, 93, 99), (93, .iload 6, 95, 99), (95, .iconst (-1000001), 97, 99), (97, .if_icmp .ne 111, 100, 99), (100, .iload 7, 102, 99), (102, .iconst (-1000001), 104, 99), (104, .if_icmp .ne 111, 107, 99), (107, .iconst (1), 108, 99), (108, .goto 249, 111, 99), (111, .iconst (0), 112, 99), (112, .goto 249, 115, 99), (115, .iload 4, 117, 99), (117, .ifCond .lt 248, 120, 99), (120, .iload 4, 122, 99), (122, .iconst (4), 123, 99), (123, .if_icmp .gt 248, 126, 99), (126, .iload 4, 128, 99), (128, .iconst (4), 129, 99), (129, .if_icmp .ne 154, 132, 99), (132, .iload 5, 134, 99), (134, .ifCond .le 248, 137, 99), (137, .aload 0, 138, 99), (138, .iconst (3), 139, 99), (139, .invokevirtual 76, 142, 99), (142, .iload 5, 144, 99), (144, .ishr, 145, 99), (145, .iconst (1), 146, 99), (146, .iand, 147, 99)]
def pg99_2 : List AEnt := [(147, .iconst (1), 148, 99), (148, .if_icmp .ne 248, 151, 99), (151, .goto 161, 154, 99), (154, .iload 5, 156, 99), (156, .iconst (-1000004), 158, 99), (158, .if_icmp .ne 248, 161, 99), (161, .iload 4, 163, 12), (163, .iconst (1), 164, 99), (164, .if_icmp .ne 197, 167, 99), (167, .iload 6, 169, 99), (169, .iconst (-1000002), 171, 99), (171, .if_icmp .ne 248, 174, 99), (174, .iload 7, 176, 99), (176, .iconst (-1000004), 178, 99), (178, .if_icmp .eq 244, 181, 99), (181, .iload 7, 183, 99), (183, .ifCond .le 248, 186, 99), (186, .iload 7, 188, 99), (188, .iconst (200), 191, 99), (191, .if_icmp .gt 248, 194, 99), (194, .goto 244, 197, 99), (197, .iload 7, 199, 99), (199, .iconst (-1000002), 201, 99), (201, .if_icmp .ne 248, 204, 99), (204, .iload 6, 206, 99), (206, .ifCond .lt 248, 209, 99), (209, .iload 6, 211, 99), (211, .iconst (100), 213, 99), (213, .if_icmp .gt 248, 216, 99), (216, .iload 6, 218, 99), (218, .ifCond .ne 225, 221, 99), (221, .iconst (1), 222, 99), (222, .goto 226, 225, 99), (225, .iconst (0), 226, 99), (226, .aload 0, 227, 99), (227, .iload 3, 228, 99), (228, .iconst (4), 229, 99), (229, .invokevirtual 65, 232, 99), (232, .iconst (2), 233, 99), (233, .if_icmp .ne 240, 236, 99)]
def pg99_3 : List AEnt := [(236, .iconst (1), 237, 99), (237, .goto 241, 240, 99), (240, .iconst (0), 241, 99), (241, .if_icmp .ne 248, 244, 99), (244, .iconst (1), 245, 99), (245, .goto 249, 248, 99), (248, .iconst (0), 249, 99), (249, .istore 12, 251, 12), (251, .iload 12, 253, 99), (253, .ifCond .eq 351, 256, 99), (256, .iload 8, 258, 99), (258, .iconst (-1000004), 260, 99), (260, .if_icmp .eq 300, 263, 99), (263, .iload 8, 265, 99), (265, .ifCond .lt 351, 268, 99), (268, .iload 8, 270, 99), (270, .iload 2, 271, 99), (271, .if_icmp .ge 351, 274, 99), (274, .aload 0, 275, 99), (275, .iload 8, 277, 99), (277, .iconst (0), 278, 99), (278, .invokevirtual 69, 281, 99), (281, .ifCond .ne 351, 284, 99), (284, .aload 0, 285, 99), (285, .iload 8, 287, 99), (287, .iconst (3), 288, 99), (288, .invokevirtual 65, 291, 99), (291, .aload 0, 292, 99), (292, .iconst (27), 294, 99), (294, .invokevirtual 76, 297, 99), (297, .if_icmp .gt 351, 300, 99), (300, .iload 9, 302, 99), (302, .iconst (-1000004), 304, 99), (304, .if_icmp .eq 320, 307, 99), (307, .iload 9, 309, 99), (309, .ifCond .le 351, 312, 99), (312, .iload 9, 314, 99), (314, .iconst (200), 317, 99), (317, .if_icmp .gt 351, 320, 99), (320, .iload 10, 322, 99)]
def pg99_4 : List AEnt := [(322, .ifCond .eq 332, 325, 99), (325, .iload 10, 327, 99), (327, .iconst (100), 329, 99), (329, .if_icmp .ne 342, 332, 99), (332, .iload 11, 334, 99), (334, .iconst (-1000001), 336, 99), (336, .if_icmp .ne 351, 339, 99), (339, .goto 347, 342, 99), (342, .iload 11, 344, 99), (344, .ifCond .lt 351, 347, 99), (347, .iconst (1), 348, 99), (348, .goto 352, 351, 99), (351, .iconst (0), 352, 99), (352, .freturn, 353, 99)]
def pg99 : List AEnt := pg99_0 ++ (pg99_1 ++ (pg99_2 ++ (pg99_3 ++ (pg99_4))))
def ac99_0 : List Instr := [.aload_n 0, .iconst 2, .invokevirtual 13, .istore_n 2, .iload_n 1, .iload_n 2, .iconst 1, .iadd, .invokestatic 39, .istore_n 3, .aload_n 0, .iload_n 3, .iconst 0, .invokevirtual 42, .istore 4, .aload_n 0, .iload_n 3, .iconst 1, .invokevirtual 42, .istore 5, .aload_n 0, .iload_n 3, .invokevirtual 45, .istore 6, .aload_n 0, .iload_n 3, .invokevirtual 48, .istore 7, .aload_n 0, .invokevirtual 51, .istore 8, .aload_n 0, .invokevirtual 54, .istore 9, .iload_n 1, .iconst 5, .ishr, .bipush 101, .invokestatic 39, .istore 10]
def ac99_1 : List Instr := [.aload_n 0, .iload 10, .invokevirtual 57, .istore 11, .iload_n 3, .iload_n 2, .if_icmp .ne 39, .iload 4, .ldc 60, .if_icmp .ne 28, .iload 5, .ldc 60, .if_icmp .ne 21, .iload 6, .ldc 60, .if_icmp .ne 14, .iload 7, .ldc 60, .if_icmp .ne 7, .iconst 1, .goto 141, .iconst 0, .goto 137, .iload 4, .ifCond .lt 131, .iload 4, .iconst 4, .if_icmp .gt 125, .iload 4, .iconst 4, .if_icmp .ne 25, .iload 5, .ifCond .le 114, .aload_n 0, .iconst 3, .invokevirtual 13, .iload 5, .ishr, .iconst 1, .iand]
def ac99_2 : List Instr := [.iconst 1, .if_icmp .ne 100, .goto 10, .iload 5, .ldc 34, .if_icmp .ne 90, .iload 4, .iconst 1, .if_icmp .ne 33, .iload 6, .ldc 61, .if_icmp .ne 77, .iload 7, .ldc 34, .if_icmp .eq 66, .iload 7, .ifCond .le 65, .iload 7, .sipush 200, .if_icmp .gt 57, .goto 50, .iload 7, .ldc 61, .if_icmp .ne 47, .iload 6, .ifCond .lt 42, .iload 6, .bipush 100, .if_icmp .gt 35, .iload 6, .ifCond .ne 7, .iconst 1, .goto 4, .iconst 0, .aload_n 0, .iload_n 3, .iconst 4, .invokevirtual 19, .iconst 2, .if_icmp .ne 7]
def ac99_3 : List Instr := [.iconst 1, .goto 4, .iconst 0, .if_icmp .ne 7, .iconst 1, .goto 4, .iconst 0, .istore 12, .iload 12, .ifCond .eq 98, .iload 8, .ldc 34, .if_icmp .eq 40, .iload 8, .ifCond .lt 86, .iload 8, .iload_n 2, .if_icmp .ge 80, .aload_n 0, .iload 8, .iconst 0, .invokevirtual 42, .ifCond .ne 70, .aload_n 0, .iload 8, .iconst 3, .invokevirtual 19, .aload_n 0, .bipush 27, .invokevirtual 13, .if_icmp .gt 54, .iload 9, .ldc 34, .if_icmp .eq 16, .iload 9, .ifCond .le 42, .iload 9, .sipush 200, .if_icmp .gt 34, .iload 10]
def ac99_4 : List Instr := [.ifCond .eq 10, .iload 10, .bipush 100, .if_icmp .ne 13, .iload 11, .ldc 60, .if_icmp .ne 15, .goto 8, .iload 11, .ifCond .lt 7, .iconst 1, .goto 4, .iconst 0, .ireturn]
def ac99 : List Instr := ac99_0 ++ (ac99_1 ++ (ac99_2 ++ (ac99_3 ++ (ac99_4))))
-- 100 CoatedBridgesLaw.number(LCoatedBridges;I)Z
def pg100 : List AEnt := [(0, .iload 1, 1, 99), (1, .iconst (100), 3, 99), (3, .if_icmp .lt 20, 6, 99), (6, .aload 0, 7, 99), (7, .iconst (48), 9, 99), (9, .iload 1, 10, 99), (10, .iconst (100), 12, 99), (12, .idiv, 13, 99), (13, .iadd, 14, 99), (14, .invokevirtual 78, 17, 99), (17, .ifCond .le 61, 20, 99), (20, .iload 1, 21, 2), (21, .iconst (10), 23, 99), (23, .if_icmp .lt 43, 26, 99), (26, .aload 0, 27, 99), (27, .iconst (48), 29, 99), (29, .iload 1, 30, 99), (30, .iconst (10), 32, 99), (32, .idiv, 33, 99), (33, .iconst (10), 35, 99), (35, .irem, 36, 99), (36, .iadd, 37, 99), (37, .invokevirtual 78, 40, 99), (40, .ifCond .le 61, 43, 99), (43, .aload 0, 44, 2), (44, .iconst (48), 46, 99), (46, .iload 1, 47, 99), (47, .iconst (10), 49, 99), (49, .irem, 50, 99), (50, .iadd, 51, 99), (51, .invokevirtual 78, 54, 99), (54, .ifCond .le 61, 57, 99), (57, .iconst (1), 58, 99), (58, .goto 62, 61, 99), (61, .iconst (0), 62, 99), (62, .freturn, 63, 99)]
def ac100 : List Instr := [.iload_n 1, .bipush 100, .if_icmp .lt 17, .aload_n 0, .bipush 48, .iload_n 1, .bipush 100, .idiv, .iadd, .invokevirtual 62, .ifCond .le 44, .iload_n 1, .bipush 10, .if_icmp .lt 20, .aload_n 0, .bipush 48, .iload_n 1, .bipush 10, .idiv, .bipush 10, .irem, .iadd, .invokevirtual 62, .ifCond .le 21, .aload_n 0, .bipush 48, .iload_n 1, .bipush 10, .irem, .iadd, .invokevirtual 62, .ifCond .le 7, .iconst 1, .goto 4, .iconst 0, .ireturn]
-- 101 CoatedBridgesLaw.types(LCoatedBridges;I)Z
def pg101_0 : List AEnt := [(0, .iload 1, 1, 99), (1, .iconst (6), 3, 99), (3, .invokestatic 96, 6, 99), (6, .istore 2, 7, 99), (7, .aload 0, 8, 99), (8, .invokevirtual 79, 11, 99), (11, .ifCond .lt 18, 14, 99), (14, .iconst (1), 15, 99), (15, .goto 19, 18, 99), (18, .iconst (0), 19, 99), (19, .istore 3, 20, 99), (20, .iconst (0), 21, 99), (21, .istore 4, 23, 99), (23, .iload 4, 25, 5), (25, .iload 2, 26, 99), (26, .if_icmp .ge 411, 29, 99), (29, .iload 1, 30, 99), (30, .iconst (3), 31, 99), (31, .iconst (4), 32, 99), (32, .iload 4, 34, 99), (34, .imul, 35, 99), (35, .iadd, 36, 99), (36, .ishr, 37, 99), (37, .istore 5, 39, 99), (39, .iload 5, 41, 99), (41, .iconst (11), 43, 99), (43, .invokestatic 96, 46, 99), (46, .istore 6, 48, 99), (48, .iload 3, 49, 99), (49, .ifCond .eq 256, 52, 99), (52, .aload 0, 53, 99), (53, .iload 6, 55, 99), (55, .iconst (2), 56, 99), (56, .if_icmp .ge 64, 59, 99), (59, .iconst (105), 61, 99), (61, .goto 123, 64, 99), (64, .iload 6, 66, 99), (66, .iconst (4), 67, 99), (67, .if_icmp .ge 75, 70, 99), (70, .iconst (98), 72, 99)]
def pg101_1 : List AEnt := [(72, .goto 123, 75, 99), (75, .iload 6, 77, 99), (77, .iconst (4), 78, 99), (78, .if_icmp .ne 86, 81, 99), (81, .iconst (115), 83, 99), (83, .goto 123, 86, 99), (86, .iload 6, 88, 99), (88, .iconst (5), 89, 99), (89, .if_icmp .ne 97, 92, 99), (92, .iconst (102), 94, 99), (94, .goto 123, 97, 99), (97, .iload 6, 99, 99), (99, .iconst (6), 101, 99), (101, .if_icmp .ne 109, 104, 99), (104, .iconst (114), 106, 99), (106, .goto 123, 109, 99), (109, .iload 6, 111, 99), (111, .iconst (7), 113, 99), (113, .if_icmp .ne 121, 116, 99), (116, .iconst (112), 118, 99), (118, .goto 123, 121, 99), (121, .iconst (100), 123, 99), (123, .invokevirtual 78, 126, 7), (126, .ifCond .le 256, 129, 99), (129, .aload 0, 130, 99), (130, .iload 6, 132, 99), (132, .iconst (2), 133, 99), (133, .if_icmp .ge 165, 136, 99), (136, .iload 5, 138, 99), (138, .iconst (2), 139, 99), (139, .ishr, 140, 99), (140, .iload 1, 141, 99), (141, .iconst (23), 143, 99), (143, .ishr, 144, 99), (144, .iconst (9), 146, 99), (146, .invokestatic 96, 149, 99), (149, .ifCond .ne 157, 152, 99), (152, .iconst (120), 154, 99), (154, .goto 159, 157, 99), (157, .iconst (50), 159, 99)]
def pg101_2 : List AEnt := [(159, .invokestatic 96, 162, 99), (162, .goto 246, 165, 99), (165, .iload 6, 167, 99), (167, .iconst (4), 168, 99), (168, .if_icmp .ge 186, 171, 99), (171, .iload 5, 173, 99), (173, .iconst (2), 174, 99), (174, .ishr, 175, 99), (175, .aload 0, 176, 99), (176, .iconst (1), 177, 99), (177, .invokevirtual 76, 180, 99), (180, .invokestatic 96, 183, 99), (183, .goto 246, 186, 99), (186, .iload 6, 188, 99), (188, .iconst (7), 190, 99), (190, .if_icmp .ge 210, 193, 99), (193, .iload 5, 195, 99), (195, .iconst (2), 196, 99), (196, .ishr, 197, 99), (197, .aload 0, 198, 99), (198, .iconst (2), 199, 99), (199, .invokevirtual 76, 202, 99), (202, .iconst (1), 203, 99), (203, .iadd, 204, 99), (204, .invokestatic 96, 207, 99), (207, .goto 246, 210, 99), (210, .iload 1, 211, 99), (211, .iconst (25), 213, 99), (213, .ishr, 214, 99), (214, .iconst (9), 216, 99), (216, .invokestatic 96, 219, 99), (219, .ifCond .ne 235, 222, 99), (222, .iload 5, 224, 99), (224, .iconst (2), 225, 99), (225, .ishr, 226, 99), (226, .iconst (200), 229, 99), (229, .invokestatic 96, 232, 99), (232, .goto 246, 235, 99), (235, .iconst (1), 236, 99), (236, .iload 5, 238, 99)]
def pg101_3 : List AEnt := [(238, .iconst (2), 239, 99), (239, .ishr, 240, 99), (240, .iconst (20), 242, 99), (242, .invokestatic 96, 245, 99), (245, .iadd, 246, 99), (246, .invokestatic 100, 249, 7), (249, .ifCond .eq 256, 252, 99), (252, .iconst (1), 253, 99), (253, .goto 257, 256, 99), (256, .iconst (0), 257, 99), (257, .istore 3, 258, 7), (258, .iload 6, 260, 99), (260, .iconst (2), 261, 99), (261, .if_icmp .eq 270, 264, 99), (264, .iload 6, 266, 99), (266, .iconst (3), 267, 99), (267, .if_icmp .ne 361, 270, 99), (270, .iload 3, 271, 99), (271, .ifCond .eq 359, 274, 99), (274, .aload 0, 275, 99), (275, .iconst (44), 277, 99), (277, .invokevirtual 78, 280, 99), (280, .ifCond .le 359, 283, 99), (283, .aload 0, 284, 99), (284, .iload 5, 286, 99), (286, .iconst (3), 287, 99), (287, .ishr, 288, 99), (288, .aload 0, 289, 99), (289, .iconst (1), 290, 99), (290, .invokevirtual 76, 293, 99), (293, .iconst (1), 294, 99), (294, .iadd, 295, 99), (295, .invokestatic 96, 298, 99), (298, .invokestatic 100, 301, 99), (301, .ifCond .eq 359, 304, 99), (304, .aload 0, 305, 99), (305, .iconst (44), 307, 99), (307, .invokevirtual 78, 310, 99), (310, .ifCond .le 359, 313, 99), (313, .aload 0, 314, 99)]
def pg101_4 : List AEnt := [(314, .iload 1, 315, 99), (315, .iconst (24), 317, 99), (317, .ishr, 318, 99), (318, .iconst (9), 320, 99), (320, .invokestatic 96, 323, 99), (323, .ifCond .ne 338, 326, 99), (326, .iload 5, 328, 99), (328, .iconst (4), 329, 99), (329, .ishr, 330, 99), (330, .iconst (12), 332, 99), (332, .invokestatic 96, 335, 99), (335, .goto 349, 338, 99), (338, .iconst (1), 339, 99), (339, .iload 5, 341, 99), (341, .iconst (4), 342, 99), (342, .ishr, 343, 99), (343, .iconst (9), 345, 99), (345, .invokestatic 96, 348, 99), (348, .iadd, 349, 99), (349, .invokestatic 100, 352, 7), (352, .ifCond .eq 359, 355, 99), (355, .iconst (1), 356, 99), (356, .goto 360, 359, 99), (359, .iconst (0), 360, 99), (360, .istore 3, 361, 99), (361, .iload 3, 362, 7), (362, .ifCond .eq 403, 365, 99), (365, .aload 0, 366, 99), (366, .iload 4, 368, 99), (368, .iload 2, 369, 99), (369, .iconst (1), 370, 99), (370, .isub, 371, 99), (371, .if_icmp .ne 391, 374, 99), (374, .iload 1, 375, 99), (375, .iconst (26), 377, 99), (377, .ishr, 378, 99), (378, .iconst (7), 380, 99), (380, .invokestatic 96, 383, 99), (383, .ifCond .ne 391, 386, 99), (386, .iconst (46), 388, 99)]
def pg101_5 : List AEnt := [(388, .goto 393, 391, 99), (391, .iconst (59), 393, 99), (393, .invokevirtual 78, 396, 99), (396, .ifCond .le 403, 399, 99), (399, .iconst (1), 400, 99), (400, .goto 404, 403, 99), (403, .iconst (0), 404, 99), (404, .istore 3, 405, 7), (405, .iinc 4 (1), 408, 99), (408, .goto 23, 411, 99), (411, .iload 3, 412, 99), (412, .freturn, 413, 99)]
def pg101 : List AEnt := pg101_0 ++ (pg101_1 ++ (pg101_2 ++ (pg101_3 ++ (pg101_4 ++ (pg101_5)))))
def ac101_0 : List Instr := [.iload_n 1, .bipush 6, .invokestatic 39, .istore_n 2, .aload_n 0, .invokevirtual 65, .ifCond .lt 7, .iconst 1, .goto 4, .iconst 0, .istore_n 3, .iconst 0, .istore 4, .iload 4, .iload_n 2, .if_icmp .ge 385, .iload_n 1, .iconst 3, .iconst 4, .iload 4, .imul, .iadd, .ishr, .istore 5, .iload 5, .bipush 11, .invokestatic 39, .istore 6, .iload_n 3, .ifCond .eq 207, .aload_n 0, .iload 6, .iconst 2, .if_icmp .ge 8, .bipush 105, .goto 62, .iload 6, .iconst 4, .if_icmp .ge 8, .bipush 98]
def ac101_1 : List Instr := [.goto 51, .iload 6, .iconst 4, .if_icmp .ne 8, .bipush 115, .goto 40, .iload 6, .iconst 5, .if_icmp .ne 8, .bipush 102, .goto 29, .iload 6, .bipush 6, .if_icmp .ne 8, .bipush 114, .goto 17, .iload 6, .bipush 7, .if_icmp .ne 8, .bipush 112, .goto 5, .bipush 100, .invokevirtual 62, .ifCond .le 130, .aload_n 0, .iload 6, .iconst 2, .if_icmp .ge 32, .iload 5, .iconst 2, .ishr, .iload_n 1, .bipush 23, .ishr, .bipush 9, .invokestatic 39, .ifCond .ne 8, .bipush 120, .goto 5, .bipush 50]
def ac101_2 : List Instr := [.invokestatic 39, .goto 84, .iload 6, .iconst 4, .if_icmp .ge 18, .iload 5, .iconst 2, .ishr, .aload_n 0, .iconst 1, .invokevirtual 13, .invokestatic 39, .goto 63, .iload 6, .bipush 7, .if_icmp .ge 20, .iload 5, .iconst 2, .ishr, .aload_n 0, .iconst 2, .invokevirtual 13, .iconst 1, .iadd, .invokestatic 39, .goto 39, .iload_n 1, .bipush 25, .ishr, .bipush 9, .invokestatic 39, .ifCond .ne 16, .iload 5, .iconst 2, .ishr, .sipush 200, .invokestatic 39, .goto 14, .iconst 1, .iload 5]
def ac101_3 : List Instr := [.iconst 2, .ishr, .bipush 20, .invokestatic 39, .iadd, .invokestatic 68, .ifCond .eq 7, .iconst 1, .goto 4, .iconst 0, .istore_n 3, .iload 6, .iconst 2, .if_icmp .eq 9, .iload 6, .iconst 3, .if_icmp .ne 94, .iload_n 3, .ifCond .eq 88, .aload_n 0, .bipush 44, .invokevirtual 62, .ifCond .le 79, .aload_n 0, .iload 5, .iconst 3, .ishr, .aload_n 0, .iconst 1, .invokevirtual 13, .iconst 1, .iadd, .invokestatic 39, .invokestatic 68, .ifCond .eq 58, .aload_n 0, .bipush 44, .invokevirtual 62, .ifCond .le 49, .aload_n 0]
def ac101_4 : List Instr := [.iload_n 1, .bipush 24, .ishr, .bipush 9, .invokestatic 39, .ifCond .ne 15, .iload 5, .iconst 4, .ishr, .bipush 12, .invokestatic 39, .goto 14, .iconst 1, .iload 5, .iconst 4, .ishr, .bipush 9, .invokestatic 39, .iadd, .invokestatic 68, .ifCond .eq 7, .iconst 1, .goto 4, .iconst 0, .istore_n 3, .iload_n 3, .ifCond .eq 41, .aload_n 0, .iload 4, .iload_n 2, .iconst 1, .isub, .if_icmp .ne 20, .iload_n 1, .bipush 26, .ishr, .bipush 7, .invokestatic 39, .ifCond .ne 8, .bipush 46]
def ac101_5 : List Instr := [.goto 5, .bipush 59, .invokevirtual 62, .ifCond .le 7, .iconst 1, .goto 4, .iconst 0, .istore_n 3, .iinc 4 1, .goto (-385), .iload_n 3, .ireturn]
def ac101 : List Instr := ac101_0 ++ (ac101_1 ++ (ac101_2 ++ (ac101_3 ++ (ac101_4 ++ (ac101_5)))))
-- 102 CoatedBridgesLaw.reads(LCoatedBridges;I)Z
def pg102_0 : List AEnt := [(0, .iload 1, 1, 99), (1, .iconst (6), 3, 99), (3, .invokestatic 96, 6, 99), (6, .istore 2, 7, 99), (7, .aload 0, 8, 99), (8, .iload 1, 9, 99), (9, .invokestatic 101, 12, 99), (12, .istore 3, 13, 99), (13, .aload 0, 14, 99), (14, .iconst (19), 16, 99), (16, .invokevirtual 76, 19, 99), (19, .istore 4, 21, 99), (21, .aload 0, 22, 99), (22, .iconst (18), 24, 99), (24, .invokevirtual 76, 27, 99), (27, .istore 5, 29, 99), (29, .aload 0, 30, 99), (30, .iconst (0), 31, 99), (31, .invokevirtual 80, 34, 99), (34, .istore 6, 36, 99), (36, .aload 0, 37, 99), (37, .iconst (1), 38, 99), (38, .invokevirtual 80, 41, 99), (41, .istore 7, 43, 99), (43, .aload 0, 44, 99), (44, .iconst (2), 45, 99), (45, .invokevirtual 80, 48, 99), (48, .istore 8, 50, 99), (50, .aload 0, 51, 99), (51, .invokevirtual 81, 54, 99), (54, .istore 9, 56, 99), (56, .iload 3, 57, 99), (57, .ifCond .eq 154, 60, 99), (60, .aload 0, 61, 99), (61, .iconst (19), 63, 99), (63, .invokevirtual 76, 66, 99), (66, .iload 4, 68, 99), (68, .if_icmp .ne 154, 71, 99), (71, .iload 6, 73, 99), (73, .iconst (-1000004), 75, 99)]
def pg102_1 : List AEnt := [(75, .if_icmp .ne 82, 78, 99), (78, .iconst (1), 79, 99), (79, .goto 83, 82, 99), (82, .iconst (0), 83, 99), (83, .iload 7, 85, 99), (85, .iconst (-1000004), 87, 99), (87, .if_icmp .ne 94, 90, 99), (90, .iconst (1), 91, 99), (91, .goto 95, 94, 99), (94, .iconst (0), 95, 99), (95, .if_icmp .ne 154, 98, 10), (98, .iload 6, 100, 99), (100, .iconst (-1000004), 102, 99), (102, .if_icmp .ne 109, 105, 99), (105, .iconst (1), 106, 99), (106, .goto 110, 109, 99), (109, .iconst (0), 110, 99), (110, .iload 8, 112, 99), (112, .iconst (-1000004), 114, 99), (114, .if_icmp .ne 121, 117, 99), (117, .iconst (1), 118, 99), (118, .goto 122, 121, 99), (121, .iconst (0), 122, 99), (122, .if_icmp .ne 154, 125, 10), (125, .iload 9, 127, 99), (127, .iconst (-1000002), 129, 99), (129, .if_icmp .ne 136, 132, 99), (132, .iconst (1), 133, 99), (133, .goto 137, 136, 99), (136, .iconst (0), 137, 99), (137, .iload 6, 139, 99), (139, .ifCond .lt 146, 142, 99), (142, .iconst (1), 143, 99), (143, .goto 147, 146, 99), (146, .iconst (0), 147, 99), (147, .if_icmp .ne 154, 150, 99), (150, .iconst (1), 151, 99), (151, .goto 155, 154, 99), (154, .iconst (0), 155, 99), (155, .istore 10, 157, 10)]
def pg102_2 : List AEnt := [(157, .iload 10, 159, 99), (159, .ifCond .eq 272, 162, 99), (162, .iload 6, 164, 99), (164, .ifCond .lt 239, 167, 99), (167, .iload 6, 169, 99), (169, .iload 4, 171, 99), (171, .if_icmp .ge 272, 174, 99), (174, .iload 7, 176, 99), (176, .iconst (1), 177, 99), (177, .if_icmp .ne 198, 180, 99), (180, .iload 8, 182, 99), (182, .ifCond .lt 272, 185, 99), (185, .iload 6, 187, 99), (187, .iload 8, 189, 99), (189, .iadd, 190, 99), (190, .iload 4, 192, 99), (192, .if_icmp .gt 272, 195, 99), (195, .goto 225, 198, 99), (198, .iload 7, 200, 99), (200, .iconst (2), 201, 99), (201, .if_icmp .ne 272, 204, 99), (204, .iload 8, 206, 99), (206, .iconst (-1000001), 208, 99), (208, .if_icmp .eq 225, 211, 99), (211, .iload 8, 213, 99), (213, .iconst (-1000002), 215, 99), (215, .if_icmp .eq 225, 218, 99), (218, .iload 8, 220, 99), (220, .iconst (-1000003), 222, 99), (222, .if_icmp .ne 272, 225, 99), (225, .aload 0, 226, 99), (226, .iconst (18), 228, 99), (228, .invokevirtual 76, 231, 99), (231, .iload 5, 233, 99), (233, .if_icmp .ne 272, 236, 99), (236, .goto 268, 239, 99), (239, .iload 9, 241, 99), (241, .iload 2, 242, 99), (242, .if_icmp .ne 272, 245, 99), (245, .aload 0, 246, 99)]
def pg102_3 : List AEnt := [(246, .iconst (18), 248, 99), (248, .invokevirtual 76, 251, 99), (251, .iload 5, 253, 99), (253, .iconst (4), 254, 99), (254, .if_icmp .ge 264, 257, 99), (257, .iload 5, 259, 99), (259, .iconst (1), 260, 99), (260, .iadd, 261, 99), (261, .goto 265, 264, 99), (264, .iconst (4), 265, 99), (265, .if_icmp .ne 272, 268, 99), (268, .iconst (1), 269, 99), (269, .goto 273, 272, 99), (272, .iconst (0), 273, 99), (273, .freturn, 274, 99)]
def pg102 : List AEnt := pg102_0 ++ (pg102_1 ++ (pg102_2 ++ (pg102_3)))
def ac102_0 : List Instr := [.iload_n 1, .bipush 6, .invokestatic 39, .istore_n 2, .aload_n 0, .iload_n 1, .invokestatic 72, .istore_n 3, .aload_n 0, .bipush 19, .invokevirtual 13, .istore 4, .aload_n 0, .bipush 18, .invokevirtual 13, .istore 5, .aload_n 0, .iconst 0, .invokevirtual 75, .istore 6, .aload_n 0, .iconst 1, .invokevirtual 75, .istore 7, .aload_n 0, .iconst 2, .invokevirtual 75, .istore 8, .aload_n 0, .invokevirtual 78, .istore 9, .iload_n 3, .ifCond .eq 97, .aload_n 0, .bipush 19, .invokevirtual 13, .iload 4, .if_icmp .ne 86, .iload 6, .ldc 34]
def ac102_1 : List Instr := [.if_icmp .ne 7, .iconst 1, .goto 4, .iconst 0, .iload 7, .ldc 34, .if_icmp .ne 7, .iconst 1, .goto 4, .iconst 0, .if_icmp .ne 59, .iload 6, .ldc 34, .if_icmp .ne 7, .iconst 1, .goto 4, .iconst 0, .iload 8, .ldc 34, .if_icmp .ne 7, .iconst 1, .goto 4, .iconst 0, .if_icmp .ne 32, .iload 9, .ldc 61, .if_icmp .ne 7, .iconst 1, .goto 4, .iconst 0, .iload 6, .ifCond .lt 7, .iconst 1, .goto 4, .iconst 0, .if_icmp .ne 7, .iconst 1, .goto 4, .iconst 0, .istore 10]
def ac102_2 : List Instr := [.iload 10, .ifCond .eq 113, .iload 6, .ifCond .lt 75, .iload 6, .iload 4, .if_icmp .ge 101, .iload 7, .iconst 1, .if_icmp .ne 21, .iload 8, .ifCond .lt 90, .iload 6, .iload 8, .iadd, .iload 4, .if_icmp .gt 80, .goto 30, .iload 7, .iconst 2, .if_icmp .ne 71, .iload 8, .ldc 60, .if_icmp .eq 17, .iload 8, .ldc 61, .if_icmp .eq 10, .iload 8, .ldc 81, .if_icmp .ne 50, .aload_n 0, .bipush 18, .invokevirtual 13, .iload 5, .if_icmp .ne 39, .goto 32, .iload 9, .iload_n 2, .if_icmp .ne 30, .aload_n 0]
def ac102_3 : List Instr := [.bipush 18, .invokevirtual 13, .iload 5, .iconst 4, .if_icmp .ge 10, .iload 5, .iconst 1, .iadd, .goto 4, .iconst 4, .if_icmp .ne 7, .iconst 1, .goto 4, .iconst 0, .ireturn]
def ac102 : List Instr := ac102_0 ++ (ac102_1 ++ (ac102_2 ++ (ac102_3)))
-- 103 CoatedBridgesLaw.crews(LCoatedBridges;II)Z
def pg103_0 : List AEnt := [(0, .aload 0, 1, 99), (1, .iconst (2), 2, 99), (2, .invokevirtual 76, 5, 99), (5, .istore 3, 6, 99), (6, .iload 2, 7, 99), (7, .iload 3, 8, 99), (8, .iconst (1), 9, 99), (9, .iadd, 10, 99), (10, .invokestatic 96, 13, 99), (13, .istore 4, 15, 99), (15, .iload 4, 17, 99), (17, .iload 3, 18, 99), (18, .if_icmp .ne 25, 21, 99), (21, .iconst (1), 22, 99), (22, .goto 26, 25, 99), (25, .iconst (0), 26, 99), (26, .istore 5, 28, 5), (28, .aload 0, 29, 99), (29, .iconst (3), 30, 99), (30, .invokevirtual 76, 33, 99), (33, .istore 6, 35, 99), (35, .iload 1, 36, 99), (36, .ifCond .ne 248, 39, 99), (39, .iload 2, 40, 99), (40, .iconst (5), 41, 99), (41, .ishr, 42, 99), (42, .iconst (5), 43, 99), (43, .invokestatic 96, 46, 99), (46, .iconst (2), 47, 99), (47, .idiv, 48, 99), (48, .istore 7, 50, 99), (50, .iload 5, 52, 99), (52, .ifCond .ne 61, 55, 99), (55, .iload 7, 57, 99), (57, .iconst (2), 58, 99), (58, .if_icmp .ne 65, 61, 99), (61, .iconst (1), 62, 99), (62, .goto 66, 65, 99), (65, .iconst (0), 66, 99), (66, .istore 8, 68, 8)]
def pg103_1 : List AEnt := [(68, .iload 8, 70, 99), (70, .ifCond .eq 77, 73, 99), (73, .iconst (0), 74, 99), (74, .goto 84, 77, 99), (77, .aload 0, 78, 99), (78, .iload 4, 80, 99), (80, .iconst (0), 81, 99), (81, .invokevirtual 69, 84, 99), (84, .istore 9, 86, 9), (86, .iload 8, 88, 99), (88, .ifCond .eq 95, 91, 99), (91, .iconst (0), 92, 99), (92, .goto 102, 95, 99), (95, .aload 0, 96, 99), (96, .iload 4, 98, 99), (98, .iconst (5), 99, 99), (99, .invokevirtual 65, 102, 99), (102, .istore 10, 104, 10), (104, .aload 0, 105, 99), (105, .iload 4, 107, 99), (107, .iload 7, 109, 99), (109, .invokevirtual 60, 112, 99), (112, .istore 11, 114, 99), (114, .iload 8, 116, 99), (116, .ifCond .ne 140, 119, 99), (119, .iload 9, 121, 99), (121, .ifCond .eq 136, 124, 99), (124, .iload 9, 126, 99), (126, .iconst (4), 127, 99), (127, .if_icmp .ne 140, 130, 99), (130, .iload 7, 132, 99), (132, .iconst (1), 133, 99), (133, .if_icmp .ne 140, 136, 99), (136, .iconst (1), 137, 99), (137, .goto 141, 140, 99), (140, .iconst (0), 141, 99), (141, .istore 12, 143, 12), (143, .iload 12, 145, 99), (145, .ifCond .eq 225, 148, 99), (148, .iload 11, 150, 99)]
def pg103_2 : List AEnt := [(150, .ifCond .lt 221, 153, 99), (153, .iload 11, 155, 99), (155, .ifCond .le 162, 158, 99), (158, .iconst (1), 159, 99), (159, .goto 163, 162, 99), (162, .iconst (0), 163, 99), (163, .iload 9, 165, 99), (165, .iconst (4), 166, 99), (166, .if_icmp .ne 173, 169, 99), (169, .iconst (1), 170, 99), (170, .goto 174, 173, 99), (173, .iconst (0), 174, 99), (174, .if_icmp .ne 221, 177, 99), (177, .aload 0, 178, 99), (178, .iconst (3), 179, 99), (179, .invokevirtual 76, 182, 99), (182, .iload 6, 184, 99), (184, .iload 11, 186, 99), (186, .iconst (-1), 187, 99), (187, .ixor, 188, 99), (188, .iand, 189, 99), (189, .if_icmp .ne 221, 192, 99), (192, .aload 0, 193, 99), (193, .iload 4, 195, 99), (195, .iconst (4), 196, 99), (196, .invokevirtual 65, 199, 99), (199, .iconst (1), 200, 99), (200, .if_icmp .ne 221, 203, 99), (203, .aload 0, 204, 99), (204, .iload 4, 206, 99), (206, .iconst (5), 207, 99), (207, .invokevirtual 65, 210, 99), (210, .iload 10, 212, 99), (212, .iconst (1), 213, 99), (213, .iadd, 214, 99), (214, .if_icmp .ne 221, 217, 99), (217, .iconst (1), 218, 99), (218, .goto 247, 221, 99), (221, .iconst (0), 222, 99), (222, .goto 247, 225, 99)]
def pg103_3 : List AEnt := [(225, .iload 11, 227, 99), (227, .iload 8, 229, 99), (229, .ifCond .eq 237, 232, 99), (232, .iconst (-1000001), 234, 99), (234, .goto 239, 237, 99), (237, .iconst (-1000002), 239, 99), (239, .if_icmp .ne 246, 242, 99), (242, .iconst (1), 243, 99), (243, .goto 247, 246, 99), (246, .iconst (0), 247, 99), (247, .freturn, 248, 99), (248, .iload 5, 250, 7), (250, .ifCond .ne 268, 253, 99), (253, .aload 0, 254, 99), (254, .iload 4, 256, 99), (256, .iconst (4), 257, 99), (257, .invokevirtual 65, 260, 99), (260, .iconst (1), 261, 99), (261, .if_icmp .ne 268, 264, 99), (264, .iconst (1), 265, 99), (265, .goto 269, 268, 99), (268, .iconst (0), 269, 99), (269, .istore 7, 271, 7), (271, .iload 5, 273, 99), (273, .ifCond .eq 280, 276, 99), (276, .iconst (0), 277, 99), (277, .goto 287, 280, 99), (280, .aload 0, 281, 99), (281, .iload 4, 283, 99), (283, .iconst (3), 284, 99), (284, .invokevirtual 65, 287, 99), (287, .istore 8, 289, 8), (289, .aload 0, 290, 99), (290, .iload 4, 292, 99), (292, .invokevirtual 61, 295, 99), (295, .iload 5, 297, 99), (297, .ifCond .eq 305, 300, 99), (300, .iconst (-1000001), 302, 99), (302, .goto 317, 305, 99), (305, .iload 7, 307, 99)]
def pg103_4 : List AEnt := [(307, .ifCond .eq 315, 310, 99), (310, .iload 8, 312, 99), (312, .goto 317, 315, 99), (315, .iconst (-1000002), 317, 99), (317, .if_icmp .ne 374, 320, 99), (320, .iload 7, 322, 99), (322, .ifCond .eq 370, 325, 99), (325, .aload 0, 326, 99), (326, .iload 4, 328, 99), (328, .iconst (4), 329, 99), (329, .invokevirtual 65, 332, 99), (332, .iload 8, 334, 99), (334, .ifCond .le 341, 337, 99), (337, .iconst (0), 338, 99), (338, .goto 342, 341, 99), (341, .iconst (2), 342, 99), (342, .if_icmp .ne 374, 345, 99), (345, .aload 0, 346, 99), (346, .iload 4, 348, 99), (348, .iconst (3), 349, 99), (349, .invokevirtual 65, 352, 99), (352, .iload 8, 354, 99), (354, .if_icmp .ne 374, 357, 99), (357, .iload 6, 359, 99), (359, .aload 0, 360, 99), (360, .iconst (3), 361, 99), (361, .invokevirtual 76, 364, 99), (364, .iconst (-1), 365, 99), (365, .ixor, 366, 99), (366, .iand, 367, 99), (367, .ifCond .ne 374, 370, 99), (370, .iconst (1), 371, 99), (371, .goto 375, 374, 99), (374, .iconst (0), 375, 99), (375, .freturn, 376, 99)]
def pg103 : List AEnt := pg103_0 ++ (pg103_1 ++ (pg103_2 ++ (pg103_3 ++ (pg103_4))))
def ac103_0 : List Instr := [.aload_n 0, .iconst 2, .invokevirtual 13, .istore_n 3, .iload_n 2, .iload_n 3, .iconst 1, .iadd, .invokestatic 39, .istore 4, .iload 4, .iload_n 3, .if_icmp .ne 7, .iconst 1, .goto 4, .iconst 0, .istore 5, .aload_n 0, .iconst 3, .invokevirtual 13, .istore 6, .iload_n 1, .ifCond .ne 212, .iload_n 2, .iconst 5, .ishr, .iconst 5, .invokestatic 39, .iconst 2, .idiv, .istore 7, .iload 5, .ifCond .ne 9, .iload 7, .iconst 2, .if_icmp .ne 7, .iconst 1, .goto 4, .iconst 0, .istore 8]
def ac103_1 : List Instr := [.iload 8, .ifCond .eq 7, .iconst 0, .goto 10, .aload_n 0, .iload 4, .iconst 0, .invokevirtual 42, .istore 9, .iload 8, .ifCond .eq 7, .iconst 0, .goto 10, .aload_n 0, .iload 4, .iconst 5, .invokevirtual 19, .istore 10, .aload_n 0, .iload 4, .iload 7, .invokevirtual 82, .istore 11, .iload 8, .ifCond .ne 24, .iload 9, .ifCond .eq 15, .iload 9, .iconst 4, .if_icmp .ne 13, .iload 7, .iconst 1, .if_icmp .ne 7, .iconst 1, .goto 4, .iconst 0, .istore 12, .iload 12, .ifCond .eq 80, .iload 11]
def ac103_2 : List Instr := [.ifCond .lt 71, .iload 11, .ifCond .le 7, .iconst 1, .goto 4, .iconst 0, .iload 9, .iconst 4, .if_icmp .ne 7, .iconst 1, .goto 4, .iconst 0, .if_icmp .ne 47, .aload_n 0, .iconst 3, .invokevirtual 13, .iload 6, .iload 11, .iconst (-1), .ixor, .iand, .if_icmp .ne 32, .aload_n 0, .iload 4, .iconst 4, .invokevirtual 19, .iconst 1, .if_icmp .ne 21, .aload_n 0, .iload 4, .iconst 5, .invokevirtual 19, .iload 10, .iconst 1, .iadd, .if_icmp .ne 7, .iconst 1, .goto 29, .iconst 0, .goto 25]
def ac103_3 : List Instr := [.iload 11, .iload 8, .ifCond .eq 8, .ldc 60, .goto 5, .ldc 61, .if_icmp .ne 7, .iconst 1, .goto 4, .iconst 0, .ireturn, .iload 5, .ifCond .ne 18, .aload_n 0, .iload 4, .iconst 4, .invokevirtual 19, .iconst 1, .if_icmp .ne 7, .iconst 1, .goto 4, .iconst 0, .istore 7, .iload 5, .ifCond .eq 7, .iconst 0, .goto 10, .aload_n 0, .iload 4, .iconst 3, .invokevirtual 19, .istore 8, .aload_n 0, .iload 4, .invokevirtual 85, .iload 5, .ifCond .eq 8, .ldc 60, .goto 15, .iload 7]
def ac103_4 : List Instr := [.ifCond .eq 8, .iload 8, .goto 5, .ldc 61, .if_icmp .ne 57, .iload 7, .ifCond .eq 48, .aload_n 0, .iload 4, .iconst 4, .invokevirtual 19, .iload 8, .ifCond .le 7, .iconst 0, .goto 4, .iconst 2, .if_icmp .ne 32, .aload_n 0, .iload 4, .iconst 3, .invokevirtual 19, .iload 8, .if_icmp .ne 20, .iload 6, .aload_n 0, .iconst 3, .invokevirtual 13, .iconst (-1), .ixor, .iand, .ifCond .ne 7, .iconst 1, .goto 4, .iconst 0, .ireturn]
def ac103 : List Instr := ac103_0 ++ (ac103_1 ++ (ac103_2 ++ (ac103_3 ++ (ac103_4))))
-- 104 CoatedBridgesLaw.acts(LCoatedBridges;II)Z
def pg104_0 : List AEnt := [(0, .iload 1, 1, 99), (1, .iconst (24), 3, 99), (3, .invokestatic 96, 6, 99), (6, .istore 3, 7, 99), (7, .aload 0, 8, 99), (8, .iconst (1), 9, 99), (9, .invokevirtual 76, 12, 99), (12, .istore 4, 14, 99), (14, .aload 0, 15, 99), (15, .iconst (2), 16, 99), (16, .invokevirtual 76, 19, 99), (19, .istore 5, 21, 99), (21, .iload 3, 22, 99), (22, .iconst (2), 23, 99), (23, .if_icmp .ge 123, 26, 99), (26, .iload 2, 27, 99), (27, .iconst (102), 29, 99), (29, .invokestatic 96, 32, 99), (32, .iconst (1), 33, 99), (33, .isub, 34, 99), (34, .istore 6, 36, 99), (36, .iload 6, 38, 99), (38, .ifCond .lt 48, 41, 99), (41, .iload 6, 43, 99), (43, .iconst (100), 45, 99), (45, .if_icmp .ne 52, 48, 99), (48, .iconst (1), 49, 99), (49, .goto 53, 52, 99), (52, .iconst (0), 53, 99), (53, .istore 7, 55, 7), (55, .aload 0, 56, 99), (56, .iload 6, 58, 99), (58, .invokevirtual 58, 61, 99), (61, .iload 7, 63, 99), (63, .ifCond .eq 71, 66, 99), (66, .iconst (-1000001), 68, 99), (68, .goto 85, 71, 99), (71, .iload 4, 73, 99), (73, .iconst (8), 75, 99), (75, .if_icmp .ne 83, 78, 99)]
def pg104_1 : List AEnt := [(78, .iconst (-1000003), 80, 99), (80, .goto 85, 83, 99), (83, .iload 4, 85, 99), (85, .if_icmp .ne 121, 88, 99), (88, .aload 0, 89, 99), (89, .iconst (1), 90, 99), (90, .invokevirtual 76, 93, 99), (93, .iload 7, 95, 99), (95, .ifCond .ne 105, 98, 99), (98, .iload 4, 100, 99), (100, .iconst (8), 102, 99), (102, .if_icmp .ne 110, 105, 99), (105, .iload 4, 107, 99), (107, .goto 114, 110, 99), (110, .iload 4, 112, 99), (112, .iconst (1), 113, 99), (113, .iadd, 114, 99), (114, .if_icmp .ne 121, 117, 8), (117, .iconst (1), 118, 99), (118, .goto 122, 121, 99), (121, .iconst (0), 122, 99), (122, .freturn, 123, 99), (123, .iload 3, 124, 6), (124, .iconst (6), 126, 99), (126, .if_icmp .ge 351, 129, 99), (129, .iload 2, 130, 99), (130, .iload 4, 132, 99), (132, .iconst (1), 133, 99), (133, .iadd, 134, 99), (134, .invokestatic 96, 137, 99), (137, .istore 6, 139, 99), (139, .iload 2, 140, 99), (140, .iconst (4), 141, 99), (141, .ishr, 142, 99), (142, .iload 4, 144, 99), (144, .invokestatic 96, 147, 99), (147, .istore 7, 149, 99), (149, .iload 2, 150, 99), (150, .iconst (8), 152, 99), (152, .ishr, 153, 99)]
def pg104_2 : List AEnt := [(153, .iload 2, 154, 99), (154, .iconst (16), 156, 99), (156, .ishr, 157, 99), (157, .iconst (4), 158, 99), (158, .invokestatic 96, 161, 99), (161, .ifCond .ne 169, 164, 99), (164, .iconst (11), 166, 99), (166, .goto 171, 169, 99), (169, .iconst (9), 171, 99), (171, .invokestatic 96, 174, 8), (174, .iload 2, 175, 99), (175, .iconst (16), 177, 99), (177, .ishr, 178, 99), (178, .iconst (4), 179, 99), (179, .invokestatic 96, 182, 99), (182, .ifCond .ne 189, 185, 99), (185, .iconst (0), 186, 99), (186, .goto 190, 189, 99), (189, .iconst (1), 190, 99), (190, .iadd, 191, 8), (191, .istore 8, 193, 99), (193, .iload 6, 195, 99), (195, .iload 4, 197, 99), (197, .if_icmp .eq 219, 200, 99), (200, .iload 6, 202, 99), (202, .iload 7, 204, 99), (204, .if_icmp .eq 219, 207, 99), (207, .iload 8, 209, 99), (209, .ifCond .eq 219, 212, 99), (212, .iload 8, 214, 99), (214, .iconst (10), 216, 99), (216, .if_icmp .ne 223, 219, 99), (219, .iconst (1), 220, 99), (220, .goto 224, 223, 99), (223, .iconst (0), 224, 99), (224, .istore 9, 226, 9), (226, .aload 0, 227, 99), (227, .iload 6, 229, 99), (229, .iload 7, 231, 99), (231, .iload 8, 233, 99)]
def pg104_3 : List AEnt := [(233, .invokevirtual 59, 236, 99), (236, .istore 10, 238, 99), (238, .iload 10, 240, 99), (240, .iload 9, 242, 99), (242, .ifCond .eq 250, 245, 99), (245, .iconst (-1000001), 247, 99), (247, .goto 264, 250, 99), (250, .iload 5, 252, 99), (252, .iconst (14), 254, 99), (254, .if_icmp .ne 262, 257, 99), (257, .iconst (-1000003), 259, 99), (259, .goto 264, 262, 99), (262, .iload 5, 264, 99), (264, .if_icmp .ne 349, 267, 11), (267, .iload 10, 269, 99), (269, .ifCond .lt 345, 272, 99), (272, .aload 0, 273, 99), (273, .iload 10, 275, 99), (275, .iconst (0), 276, 99), (276, .invokevirtual 65, 279, 99), (279, .iload 6, 281, 99), (281, .if_icmp .ne 349, 284, 99), (284, .aload 0, 285, 99), (285, .iload 10, 287, 99), (287, .iconst (1), 288, 99), (288, .invokevirtual 65, 291, 99), (291, .iload 7, 293, 99), (293, .if_icmp .ne 349, 296, 99), (296, .aload 0, 297, 99), (297, .iload 10, 299, 99), (299, .iconst (2), 300, 99), (300, .invokevirtual 65, 303, 99), (303, .iload 8, 305, 99), (305, .if_icmp .ne 349, 308, 99), (308, .aload 0, 309, 99), (309, .iload 10, 311, 99), (311, .iconst (3), 312, 99), (312, .invokevirtual 65, 315, 99), (315, .iconst (100), 317, 99), (317, .if_icmp .ne 349, 320, 99)]
def pg104_4 : List AEnt := [(320, .aload 0, 321, 99), (321, .iload 10, 323, 99), (323, .iconst (4), 324, 99), (324, .invokevirtual 65, 327, 99), (327, .ifCond .ne 349, 330, 99), (330, .aload 0, 331, 99), (331, .iload 6, 333, 99), (333, .invokevirtual 67, 336, 99), (336, .aload 0, 337, 99), (337, .iload 7, 339, 99), (339, .invokevirtual 67, 342, 99), (342, .if_icmp .ne 349, 345, 99), (345, .iconst (1), 346, 99), (346, .goto 350, 349, 99), (349, .iconst (0), 350, 99), (350, .freturn, 351, 99), (351, .iload 3, 352, 6), (352, .iconst (11), 354, 99), (354, .if_icmp .ge 374, 357, 99), (357, .aload 0, 358, 99), (358, .iload 3, 359, 99), (359, .iconst (10), 361, 99), (361, .if_icmp .ge 368, 364, 99), (364, .iconst (0), 365, 99), (365, .goto 369, 368, 99), (368, .iconst (1), 369, 99), (369, .iload 2, 370, 99), (370, .invokestatic 103, 373, 99), (373, .freturn, 374, 99), (374, .iload 3, 375, 6), (375, .iconst (11), 377, 99), (377, .if_icmp .ne 462, 380, 99), (380, .iload 2, 381, 99), (381, .iconst (1001), 384, 99), (384, .invokestatic 96, 387, 99), (387, .istore 6, 389, 99), (389, .iload 6, 391, 99), (391, .ifCond .eq 402, 394, 99), (394, .iload 6, 396, 99), (396, .iconst (1000), 399, 99)]
def pg104_5 : List AEnt := [(399, .if_icmp .ne 406, 402, 99), (402, .iconst (1), 403, 99), (403, .goto 407, 406, 99), (406, .iconst (0), 407, 99), (407, .istore 7, 409, 7), (409, .aload 0, 410, 99), (410, .iconst (13), 412, 99), (412, .invokevirtual 76, 415, 99), (415, .istore 8, 417, 99), (417, .aload 0, 418, 99), (418, .iload 6, 420, 99), (420, .invokevirtual 62, 423, 99), (423, .iload 7, 425, 99), (425, .ifCond .eq 433, 428, 99), (428, .iconst (-1000001), 430, 99), (430, .goto 453, 433, 99), (433, .iload 8, 435, 99), (435, .iload 6, 437, 99), (437, .iadd, 438, 99), (438, .iconst (999999), 440, 99), (440, .if_icmp .le 448, 443, 99), (443, .iconst (-1000003), 445, 99), (445, .goto 453, 448, 99), (448, .iload 8, 450, 99), (450, .iload 6, 452, 99), (452, .iadd, 453, 99), (453, .if_icmp .ne 460, 456, 9), (456, .iconst (1), 457, 99), (457, .goto 461, 460, 99), (460, .iconst (0), 461, 99), (461, .freturn, 462, 99), (462, .iload 3, 463, 6), (463, .iconst (17), 465, 99), (465, .if_icmp .ge 642, 468, 99), (468, .iload 2, 469, 99), (469, .iload 2, 470, 99), (470, .iconst (8), 472, 99), (472, .ishr, 473, 99), (473, .iconst (5), 474, 99), (474, .invokestatic 96, 477, 99)]
def pg104_6 : List AEnt := [(477, .ifCond .ne 485, 480, 99), (480, .iconst (101), 482, 99), (482, .goto 487, 485, 99), (485, .iconst (15), 487, 99), (487, .invokestatic 96, 490, 6), (490, .istore 6, 492, 99), (492, .iload 6, 494, 99), (494, .ifCond .eq 504, 497, 99), (497, .iload 6, 499, 99), (499, .iconst (100), 501, 99), (501, .if_icmp .ne 508, 504, 99), (504, .iconst (1), 505, 99), (505, .goto 509, 508, 99), (508, .iconst (0), 509, 99), (509, .istore 7, 511, 7), (511, .aload 0, 512, 99), (512, .iconst (0), 513, 99), (513, .invokevirtual 76, 516, 99), (516, .istore 8, 518, 99), (518, .iload 7, 520, 99), (520, .ifCond .eq 527, 523, 99), (523, .iconst (0), 524, 99), (524, .goto 533, 527, 99), (527, .aload 0, 528, 99), (528, .iload 6, 530, 99), (530, .invokevirtual 74, 533, 99), (533, .istore 9, 535, 9), (535, .aload 0, 536, 99), (536, .iconst (11), 538, 99), (538, .invokevirtual 76, 541, 99), (541, .istore 10, 543, 99), (543, .aload 0, 544, 99), (544, .iload 6, 546, 99), (546, .invokevirtual 63, 549, 99), (549, .istore 11, 551, 99), (551, .iload 7, 553, 99), (553, .ifCond .ne 567, 556, 99), (556, .iload 8, 558, 99), (558, .iload 6, 560, 99), (560, .iadd, 561, 99)]
def pg104_7 : List AEnt := [(561, .iconst (9999), 564, 99), (564, .if_icmp .le 602, 567, 99), (567, .iload 11, 569, 99), (569, .iload 7, 571, 99), (571, .ifCond .eq 579, 574, 99), (574, .iconst (-1000001), 576, 99), (576, .goto 581, 579, 99), (579, .iconst (-1000003), 581, 99), (581, .if_icmp .ne 598, 584, 12), (584, .aload 0, 585, 99), (585, .iconst (0), 586, 99), (586, .invokevirtual 76, 589, 99), (589, .iload 8, 591, 99), (591, .if_icmp .ne 598, 594, 99), (594, .iconst (1), 595, 99), (595, .goto 641, 598, 99), (598, .iconst (0), 599, 99), (599, .goto 641, 602, 99), (602, .iload 11, 604, 99), (604, .iload 9, 606, 99), (606, .if_icmp .ne 640, 609, 99), (609, .aload 0, 610, 99), (610, .iconst (0), 611, 99), (611, .invokevirtual 76, 614, 99), (614, .iload 8, 616, 99), (616, .iload 6, 618, 99), (618, .iadd, 619, 99), (619, .if_icmp .ne 640, 622, 99), (622, .aload 0, 623, 99), (623, .iconst (11), 625, 99), (625, .invokevirtual 76, 628, 99), (628, .iload 10, 630, 99), (630, .iload 9, 632, 99), (632, .iadd, 633, 99), (633, .if_icmp .ne 640, 636, 99), (636, .iconst (1), 637, 99), (637, .goto 641, 640, 99), (640, .iconst (0), 641, 99), (641, .freturn, 642, 99), (642, .iload 3, 643, 6)]
def pg104_8 : List AEnt := [(643, .iconst (21), 645, 99), (645, .if_icmp .ge 839, 648, 99), (648, .iload 2, 649, 99), (649, .iconst (9), 651, 99), (651, .invokestatic 96, 654, 99), (654, .istore 6, 656, 99), (656, .iload 2, 657, 99), (657, .iconst (4), 658, 99), (658, .ishr, 659, 99), (659, .iconst (103), 661, 99), (661, .invokestatic 96, 664, 99), (664, .iconst (1), 665, 99), (665, .isub, 666, 99), (666, .istore 7, 668, 99), (668, .iload 6, 670, 99), (670, .ifCond .ne 677, 673, 99), (673, .iconst (4), 674, 99), (674, .goto 718, 677, 99), (677, .iload 6, 679, 99), (679, .iconst (1), 680, 99), (680, .if_icmp .ne 688, 683, 99), (683, .iconst (100), 685, 99), (685, .goto 718, 688, 99), (688, .iload 6, 690, 99), (690, .iconst (3), 691, 99), (691, .if_icmp .eq 701, 694, 99), (694, .iload 6, 696, 99), (696, .iconst (6), 698, 99), (698, .if_icmp .ne 705, 701, 99), (701, .iconst (1), 702, 99), (702, .goto 718, 705, 99), (705, .iload 6, 707, 99), (707, .iconst (4), 708, 99), (708, .if_icmp .ne 716, 711, 99), (711, .iconst (30), 713, 99), (713, .goto 718, 716, 99), (716, .iconst (99), 718, 99), (718, .istore 8, 720, 8), (720, .iload 6, 722, 99), (722, .iconst (8), 724, 99)]
def pg104_9 : List AEnt := [(724, .if_icmp .eq 750, 727, 99), (727, .iload 7, 729, 99), (729, .iload 6, 731, 99), (731, .iconst (1), 732, 99), (732, .if_icmp .ne 739, 735, 99), (735, .iconst (1), 736, 99), (736, .goto 740, 739, 99), (739, .iconst (0), 740, 99), (740, .if_icmp .lt 750, 743, 99), (743, .iload 7, 745, 99), (745, .iload 8, 747, 99), (747, .if_icmp .le 754, 750, 99), (750, .iconst (1), 751, 99), (751, .goto 755, 754, 99), (754, .iconst (0), 755, 99), (755, .istore 9, 757, 9), (757, .iload 6, 759, 99), (759, .iconst (8), 761, 99), (761, .if_icmp .ne 768, 764, 99), (764, .iconst (0), 765, 99), (765, .goto 777, 768, 99), (768, .aload 0, 769, 99), (769, .iconst (20), 771, 99), (771, .iload 6, 773, 99), (773, .iadd, 774, 99), (774, .invokevirtual 76, 777, 99), (777, .istore 10, 779, 10), (779, .aload 0, 780, 99), (780, .iload 6, 782, 99), (782, .iload 7, 784, 99), (784, .invokevirtual 64, 787, 99), (787, .iload 9, 789, 99), (789, .ifCond .eq 797, 792, 99), (792, .iconst (-1000001), 794, 99), (794, .goto 799, 797, 99), (797, .iload 10, 799, 99), (799, .if_icmp .ne 837, 802, 11), (802, .iload 6, 804, 99), (804, .iconst (8), 806, 99), (806, .if_icmp .eq 833, 809, 99)]
def pg104_10 : List AEnt := [(809, .aload 0, 810, 99), (810, .iconst (20), 812, 99), (812, .iload 6, 814, 99), (814, .iadd, 815, 99), (815, .invokevirtual 76, 818, 99), (818, .iload 9, 820, 99), (820, .ifCond .eq 828, 823, 99), (823, .iload 10, 825, 99), (825, .goto 830, 828, 99), (828, .iload 7, 830, 99), (830, .if_icmp .ne 837, 833, 99), (833, .iconst (1), 834, 99), (834, .goto 838, 837, 99), (837, .iconst (0), 838, 99), (838, .freturn, 839, 99), (839, .aload 0, 840, 6), (840, .iload 2, 841, 99), (841, .invokestatic 102, 844, 99), (844, .freturn, 845, 99)]
def pg104 : List AEnt := pg104_0 ++ (pg104_1 ++ (pg104_2 ++ (pg104_3 ++ (pg104_4 ++ (pg104_5 ++ (pg104_6 ++ (pg104_7 ++ (pg104_8 ++ (pg104_9 ++ (pg104_10))))))))))
def ac104_0 : List Instr := [.iload_n 1, .bipush 24, .invokestatic 39, .istore_n 3, .aload_n 0, .iconst 1, .invokevirtual 13, .istore 4, .aload_n 0, .iconst 2, .invokevirtual 13, .istore 5, .iload_n 3, .iconst 2, .if_icmp .ge 100, .iload_n 2, .bipush 102, .invokestatic 39, .iconst 1, .isub, .istore 6, .iload 6, .ifCond .lt 10, .iload 6, .bipush 100, .if_icmp .ne 7, .iconst 1, .goto 4, .iconst 0, .istore 7, .aload_n 0, .iload 6, .invokevirtual 88, .iload 7, .ifCond .eq 8, .ldc 60, .goto 17, .iload 4, .bipush 8, .if_icmp .ne 8]
def ac104_1 : List Instr := [.ldc 81, .goto 5, .iload 4, .if_icmp .ne 36, .aload_n 0, .iconst 1, .invokevirtual 13, .iload 7, .ifCond .ne 10, .iload 4, .bipush 8, .if_icmp .ne 8, .iload 4, .goto 7, .iload 4, .iconst 1, .iadd, .if_icmp .ne 7, .iconst 1, .goto 4, .iconst 0, .ireturn, .iload_n 3, .bipush 6, .if_icmp .ge 225, .iload_n 2, .iload 4, .iconst 1, .iadd, .invokestatic 39, .istore 6, .iload_n 2, .iconst 4, .ishr, .iload 4, .invokestatic 39, .istore 7, .iload_n 2, .bipush 8, .ishr]
def ac104_2 : List Instr := [.iload_n 2, .bipush 16, .ishr, .iconst 4, .invokestatic 39, .ifCond .ne 8, .bipush 11, .goto 5, .bipush 9, .invokestatic 39, .iload_n 2, .bipush 16, .ishr, .iconst 4, .invokestatic 39, .ifCond .ne 7, .iconst 0, .goto 4, .iconst 1, .iadd, .istore 8, .iload 6, .iload 4, .if_icmp .eq 22, .iload 6, .iload 7, .if_icmp .eq 15, .iload 8, .ifCond .eq 10, .iload 8, .bipush 10, .if_icmp .ne 7, .iconst 1, .goto 4, .iconst 0, .istore 9, .aload_n 0, .iload 6, .iload 7, .iload 8]
def ac104_3 : List Instr := [.invokevirtual 91, .istore 10, .iload 10, .iload 9, .ifCond .eq 8, .ldc 60, .goto 17, .iload 5, .bipush 14, .if_icmp .ne 8, .ldc 81, .goto 5, .iload 5, .if_icmp .ne 85, .iload 10, .ifCond .lt 76, .aload_n 0, .iload 10, .iconst 0, .invokevirtual 19, .iload 6, .if_icmp .ne 68, .aload_n 0, .iload 10, .iconst 1, .invokevirtual 19, .iload 7, .if_icmp .ne 56, .aload_n 0, .iload 10, .iconst 2, .invokevirtual 19, .iload 8, .if_icmp .ne 44, .aload_n 0, .iload 10, .iconst 3, .invokevirtual 19, .bipush 100, .if_icmp .ne 32]
def ac104_4 : List Instr := [.aload_n 0, .iload 10, .iconst 4, .invokevirtual 19, .ifCond .ne 22, .aload_n 0, .iload 6, .invokevirtual 29, .aload_n 0, .iload 7, .invokevirtual 29, .if_icmp .ne 7, .iconst 1, .goto 4, .iconst 0, .ireturn, .iload_n 3, .bipush 11, .if_icmp .ge 20, .aload_n 0, .iload_n 3, .bipush 10, .if_icmp .ge 7, .iconst 0, .goto 4, .iconst 1, .iload_n 2, .invokestatic 95, .ireturn, .iload_n 3, .bipush 11, .if_icmp .ne 85, .iload_n 2, .sipush 1001, .invokestatic 39, .istore 6, .iload 6, .ifCond .eq 11, .iload 6, .sipush 1000]
def ac104_5 : List Instr := [.if_icmp .ne 7, .iconst 1, .goto 4, .iconst 0, .istore 7, .aload_n 0, .bipush 13, .invokevirtual 13, .istore 8, .aload_n 0, .iload 6, .invokevirtual 99, .iload 7, .ifCond .eq 8, .ldc 60, .goto 23, .iload 8, .iload 6, .iadd, .ldc 102, .if_icmp .le 8, .ldc 81, .goto 8, .iload 8, .iload 6, .iadd, .if_icmp .ne 7, .iconst 1, .goto 4, .iconst 0, .ireturn, .iload_n 3, .bipush 17, .if_icmp .ge 177, .iload_n 2, .iload_n 2, .bipush 8, .ishr, .iconst 5, .invokestatic 39]
def ac104_6 : List Instr := [.ifCond .ne 8, .bipush 101, .goto 5, .bipush 15, .invokestatic 39, .istore 6, .iload 6, .ifCond .eq 10, .iload 6, .bipush 100, .if_icmp .ne 7, .iconst 1, .goto 4, .iconst 0, .istore 7, .aload_n 0, .iconst 0, .invokevirtual 13, .istore 8, .iload 7, .ifCond .eq 7, .iconst 0, .goto 9, .aload_n 0, .iload 6, .invokevirtual 57, .istore 9, .aload_n 0, .bipush 11, .invokevirtual 13, .istore 10, .aload_n 0, .iload 6, .invokevirtual 103, .istore 11, .iload 7, .ifCond .ne 14, .iload 8, .iload 6, .iadd]
def ac104_7 : List Instr := [.sipush 9999, .if_icmp .le 38, .iload 11, .iload 7, .ifCond .eq 8, .ldc 60, .goto 5, .ldc 81, .if_icmp .ne 17, .aload_n 0, .iconst 0, .invokevirtual 13, .iload 8, .if_icmp .ne 7, .iconst 1, .goto 46, .iconst 0, .goto 42, .iload 11, .iload 9, .if_icmp .ne 34, .aload_n 0, .iconst 0, .invokevirtual 13, .iload 8, .iload 6, .iadd, .if_icmp .ne 21, .aload_n 0, .bipush 11, .invokevirtual 13, .iload 10, .iload 9, .iadd, .if_icmp .ne 7, .iconst 1, .goto 4, .iconst 0, .ireturn, .iload_n 3]
def ac104_8 : List Instr := [.bipush 21, .if_icmp .ge 194, .iload_n 2, .bipush 9, .invokestatic 39, .istore 6, .iload_n 2, .iconst 4, .ishr, .bipush 103, .invokestatic 39, .iconst 1, .isub, .istore 7, .iload 6, .ifCond .ne 7, .iconst 4, .goto 44, .iload 6, .iconst 1, .if_icmp .ne 8, .bipush 100, .goto 33, .iload 6, .iconst 3, .if_icmp .eq 10, .iload 6, .bipush 6, .if_icmp .ne 7, .iconst 1, .goto 16, .iload 6, .iconst 4, .if_icmp .ne 8, .bipush 30, .goto 5, .bipush 99, .istore 8, .iload 6, .bipush 8]
def ac104_9 : List Instr := [.if_icmp .eq 26, .iload 7, .iload 6, .iconst 1, .if_icmp .ne 7, .iconst 1, .goto 4, .iconst 0, .if_icmp .lt 10, .iload 7, .iload 8, .if_icmp .le 7, .iconst 1, .goto 4, .iconst 0, .istore 9, .iload 6, .bipush 8, .if_icmp .ne 7, .iconst 0, .goto 12, .aload_n 0, .bipush 20, .iload 6, .iadd, .invokevirtual 13, .istore 10, .aload_n 0, .iload 6, .iload 7, .invokevirtual 106, .iload 9, .ifCond .eq 8, .ldc 60, .goto 5, .iload 10, .if_icmp .ne 38, .iload 6, .bipush 8, .if_icmp .eq 27]
def ac104_10 : List Instr := [.aload_n 0, .bipush 20, .iload 6, .iadd, .invokevirtual 13, .iload 9, .ifCond .eq 8, .iload 10, .goto 5, .iload 7, .if_icmp .ne 7, .iconst 1, .goto 4, .iconst 0, .ireturn, .aload_n 0, .iload_n 2, .invokestatic 109, .ireturn]
def ac104 : List Instr := ac104_0 ++ (ac104_1 ++ (ac104_2 ++ (ac104_3 ++ (ac104_4 ++ (ac104_5 ++ (ac104_6 ++ (ac104_7 ++ (ac104_8 ++ (ac104_9 ++ (ac104_10))))))))))
-- 105 CoatedBridgesLaw.law([I)Z
def pg105_0 : List AEnt := [(0, .new 5, 3, 99), (3, .dup, 4, 99), (4, .invokevirtual 57, 7, 99), (7, .astore 1, 8, 99), (8, .aload 1, 9, 2), (9, .invokestatic 98, 12, 99), (12, .ifCond .eq 36, 15, 99), (15, .aload 1, 16, 99), (16, .iconst (0), 17, 99), (17, .invokestatic 99, 20, 99), (20, .ifCond .eq 36, 23, 99), (23, .aload 1, 24, 99), (24, .invokevirtual 77, 27, 99), (27, .iconst (-1000002), 29, 99), (29, .if_icmp .ne 36, 32, 99), (32, .iconst (1), 33, 99), (33, .goto 37, 36, 99), (36, .iconst (0), 37, 99), (37, .istore 2, 38, 2), (38, .iconst (0), 39, 99), (39, .istore 3, 40, 99), (40, .iload 3, 41, 4), (41, .iconst (48), 43, 99), (43, .if_icmp .ge 303, 46, 99), (46, .iload 2, 47, 99), (47, .ifCond .eq 303, 50, 99), (50, .iload 3, 51, 99), (51, .iconst (3), 52, 99), (52, .if_icmp .ge 59, 55, 99), (55, .iconst (0), 56, 99), (56, .goto 76, 59, 99), (59, .iload 3, 60, 99), (60, .iconst (7), 62, 99), (62, .if_icmp .ge 69, 65, 99), (65, .iconst (2), 66, 99), (66, .goto 76, 69, 99), (69, .aload 0, 70, 99), (70, .iconst (2), 71, 99), (71, .iload 3, 72, 99), (72, .imul, 73, 99)]
def pg105_1 : List AEnt := [(73, .invokestatic 95, 76, 99), (76, .istore 4, 78, 4), (78, .aload 0, 79, 99), (79, .iconst (2), 80, 99), (80, .iload 3, 81, 99), (81, .imul, 82, 99), (82, .iconst (1), 83, 99), (83, .iadd, 84, 99), (84, .invokestatic 95, 87, 99), (87, .istore 5, 89, 99), (89, .aload 1, 90, 99), (90, .invokestatic 97, 93, 99), (93, .lstore 6, 95, 99), (95, .aload 1, 96, 99), (96, .iconst (18), 98, 99), (98, .invokevirtual 76, 101, 99), (101, .istore 8, 103, 99), (103, .aload 1, 104, 99), (104, .iload 4, 106, 99), (106, .iload 5, 108, 99), (108, .invokestatic 104, 111, 99), (111, .ifCond .eq 147, 114, 99), (114, .iload 3, 115, 99), (115, .iconst (3), 116, 99), (116, .irem, 117, 99), (117, .ifCond .gt 127, 120, 99), (120, .aload 1, 121, 99), (121, .invokestatic 98, 124, 99), (124, .ifCond .eq 147, 127, 99), (127, .iload 3, 128, 99), (128, .iconst (5), 129, 99), (129, .irem, 130, 99), (130, .iconst (3), 131, 99), (131, .if_icmp .ne 143, 134, 99), (134, .aload 1, 135, 99), (135, .iload 5, 137, 99), (137, .invokestatic 99, 140, 99), (140, .ifCond .eq 147, 143, 99), (143, .iconst (1), 144, 99), (144, .goto 148, 147, 99)]
def pg105_2 : List AEnt := [(147, .iconst (0), 148, 99), (148, .istore 2, 149, 9), (149, .aload 1, 150, 99), (150, .iconst (18), 152, 99), (152, .invokevirtual 76, 155, 99), (155, .istore 9, 157, 99), (157, .iload 2, 158, 99), (158, .ifCond .eq 197, 161, 99), (161, .iload 9, 163, 99), (163, .iload 8, 165, 99), (165, .if_icmp .ne 184, 168, 99), (168, .iload 8, 170, 99), (170, .iconst (4), 171, 99), (171, .if_icmp .eq 193, 174, 99), (174, .aload 1, 175, 99), (175, .invokestatic 97, 178, 99), (178, .lload 6, 180, 99), (180, .lcmp, 181, 99), (181, .ifCond .eq 193, 184, 99), (184, .iload 9, 186, 99), (186, .iload 8, 188, 99), (188, .iconst (1), 189, 99), (189, .iadd, 190, 99), (190, .if_icmp .ne 197, 193, 99), (193, .iconst (1), 194, 99), (194, .goto 198, 197, 99), (197, .iconst (0), 198, 99), (198, .istore 2, 199, 10), (199, .iload 2, 200, 99), (200, .ifCond .eq 249, 203, 99), (203, .iload 9, 205, 99), (205, .iload 8, 207, 99), (207, .iconst (1), 208, 99), (208, .iadd, 209, 99), (209, .if_icmp .ne 249, 212, 99), (212, .iload 5, 214, 99), (214, .iconst (8), 216, 99), (216, .ishr, 217, 99), (217, .iconst (3), 218, 99), (218, .invokestatic 96, 221, 99)]
def pg105_3 : List AEnt := [(221, .ifCond .ne 249, 224, 99), (224, .aload 1, 225, 99), (225, .invokevirtual 77, 228, 99), (228, .iload 8, 230, 99), (230, .if_icmp .ne 247, 233, 99), (233, .aload 1, 234, 99), (234, .invokestatic 97, 237, 99), (237, .lload 6, 239, 99), (239, .lcmp, 240, 99), (240, .ifCond .ne 247, 243, 99), (243, .iconst (1), 244, 99), (244, .goto 248, 247, 99), (247, .iconst (0), 248, 99), (248, .istore 2, 249, 99), (249, .iload 2, 250, 10), (250, .ifCond .eq 297, 253, 99), (253, .iload 3, 254, 99), (254, .iconst (9), 256, 99), (256, .irem, 257, 99), (257, .iconst (8), 259, 99), (259, .if_icmp .ne 297, 262, 99), (262, .aload 1, 263, 99), (263, .iconst (18), 265, 99), (265, .invokevirtual 76, 268, 99), (268, .istore 10, 270, 99), (270, .aload 1, 271, 99), (271, .invokevirtual 77, 274, 99), (274, .iload 10, 276, 99), (276, .ifCond .ne 284, 279, 99), (279, .iconst (-1000002), 281, 99), (281, .goto 288, 284, 99), (284, .iload 10, 286, 99), (286, .iconst (1), 287, 99), (287, .isub, 288, 99), (288, .if_icmp .ne 295, 291, 99), (291, .iconst (1), 292, 99), (292, .goto 296, 295, 99), (295, .iconst (0), 296, 99), (296, .istore 2, 297, 99), (297, .iinc 3 (1), 300, 10)]
def pg105_4 : List AEnt := [(300, .goto 40, 303, 99), (303, .iload 2, 304, 99), (304, .ifCond .eq 318, 307, 99), (307, .aload 1, 308, 99), (308, .invokestatic 98, 311, 99), (311, .ifCond .eq 318, 314, 99), (314, .iconst (1), 315, 99), (315, .goto 319, 318, 99), (318, .iconst (0), 319, 99), (319, .freturn, 320, 99)]
def pg105 : List AEnt := pg105_0 ++ (pg105_1 ++ (pg105_2 ++ (pg105_3 ++ (pg105_4))))
def ac105_0 : List Instr := [.new 14, .dup, .invokespecial 112, .astore_n 1, .aload_n 1, .invokestatic 113, .ifCond .eq 24, .aload_n 1, .iconst 0, .invokestatic 117, .ifCond .eq 16, .aload_n 1, .invokevirtual 120, .ldc 61, .if_icmp .ne 7, .iconst 1, .goto 4, .iconst 0, .istore_n 2, .iconst 0, .istore_n 3, .iload_n 3, .bipush 48, .if_icmp .ge 260, .iload_n 2, .ifCond .eq 256, .iload_n 3, .iconst 3, .if_icmp .ge 7, .iconst 0, .goto 20, .iload_n 3, .bipush 7, .if_icmp .ge 7, .iconst 2, .goto 10, .aload_n 0, .iconst 2, .iload_n 3, .imul]
def ac105_1 : List Instr := [.invokestatic 123, .istore 4, .aload_n 0, .iconst 2, .iload_n 3, .imul, .iconst 1, .iadd, .invokestatic 123, .istore 5, .aload_n 1, .invokestatic 127, .lstore 6, .aload_n 1, .bipush 18, .invokevirtual 13, .istore 8, .aload_n 1, .iload 4, .iload 5, .invokestatic 131, .ifCond .eq 36, .iload_n 3, .iconst 3, .irem, .ifCond .gt 10, .aload_n 1, .invokestatic 113, .ifCond .eq 23, .iload_n 3, .iconst 5, .irem, .iconst 3, .if_icmp .ne 12, .aload_n 1, .iload 5, .invokestatic 117, .ifCond .eq 7, .iconst 1, .goto 4]
def ac105_2 : List Instr := [.iconst 0, .istore_n 2, .aload_n 1, .bipush 18, .invokevirtual 13, .istore 9, .iload_n 2, .ifCond .eq 39, .iload 9, .iload 8, .if_icmp .ne 19, .iload 8, .iconst 4, .if_icmp .eq 22, .aload_n 1, .invokestatic 127, .lload 6, .lcmp, .ifCond .eq 12, .iload 9, .iload 8, .iconst 1, .iadd, .if_icmp .ne 7, .iconst 1, .goto 4, .iconst 0, .istore_n 2, .iload_n 2, .ifCond .eq 49, .iload 9, .iload 8, .iconst 1, .iadd, .if_icmp .ne 40, .iload 5, .bipush 8, .ishr, .iconst 3, .invokestatic 39]
def ac105_3 : List Instr := [.ifCond .ne 28, .aload_n 1, .invokevirtual 120, .iload 8, .if_icmp .ne 17, .aload_n 1, .invokestatic 127, .lload 6, .lcmp, .ifCond .ne 7, .iconst 1, .goto 4, .iconst 0, .istore_n 2, .iload_n 2, .ifCond .eq 47, .iload_n 3, .bipush 9, .irem, .bipush 8, .if_icmp .ne 38, .aload_n 1, .bipush 18, .invokevirtual 13, .istore 10, .aload_n 1, .invokevirtual 120, .iload 10, .ifCond .ne 8, .ldc 61, .goto 7, .iload 10, .iconst 1, .isub, .if_icmp .ne 7, .iconst 1, .goto 4, .iconst 0, .istore_n 2, .iinc 3 1]
def ac105_4 : List Instr := [.goto (-260), .iload_n 2, .ifCond .eq 14, .aload_n 1, .invokestatic 113, .ifCond .eq 7, .iconst 1, .goto 4, .iconst 0, .ireturn]
def ac105 : List Instr := ac105_0 ++ (ac105_1 ++ (ac105_2 ++ (ac105_3 ++ (ac105_4))))
def mCode (mi : Nat) : List AEnt := match mi with
  | 0 => pg0
  | 1 => pg1
  | 2 => pg2
  | 3 => pg3
  | 4 => pg4
  | 5 => pg5
  | 6 => pg6
  | 7 => pg7
  | 8 => pg8
  | 9 => pg9
  | 10 => pg10
  | 11 => pg11
  | 12 => pg12
  | 13 => pg13
  | 14 => pg14
  | 15 => pg15
  | 16 => pg16
  | 17 => pg17
  | 18 => pg18
  | 19 => pg19
  | 20 => pg20
  | 21 => pg21
  | 22 => pg22
  | 23 => pg23
  | 24 => pg24
  | 25 => pg25
  | 26 => pg26
  | 27 => pg27
  | 28 => pg28
  | 29 => pg29
  | 30 => pg30
  | 31 => pg31
  | 32 => pg32
  | 33 => pg33
  | 34 => pg34
  | 35 => pg35
  | 36 => pg36
  | 37 => pg37
  | 38 => pg38
  | 39 => pg39
  | 40 => pg40
  | 41 => pg41
  | 42 => pg42
  | 43 => pg43
  | 44 => pg44
  | 45 => pg45
  | 46 => pg46
  | 47 => pg47
  | 48 => pg48
  | 49 => pg49
  | 50 => pg50
  | 51 => pg51
  | 52 => pg52
  | 53 => pg53
  | 54 => pg54
  | 55 => pg55
  | 56 => pg56
  | 57 => pg57
  | 58 => pg58
  | 59 => pg59
  | 60 => pg60
  | 61 => pg61
  | 62 => pg62
  | 63 => pg63
  | 64 => pg64
  | 65 => pg65
  | 66 => pg66
  | 67 => pg67
  | 68 => pg68
  | 69 => pg69
  | 70 => pg70
  | 71 => pg71
  | 72 => pg72
  | 73 => pg73
  | 74 => pg74
  | 75 => pg75
  | 76 => pg76
  | 77 => pg77
  | 78 => pg78
  | 79 => pg79
  | 80 => pg80
  | 81 => pg81
  | 82 => pg82
  | 83 => pg83
  | 84 => pg84
  | 85 => pg85
  | 86 => pg86
  | 87 => pg87
  | 88 => pg88
  | 89 => pg89
  | 90 => pg90
  | 91 => pg91
  | 92 => pg92
  | 93 => pg93
  | 94 => pg94
  | 95 => pg95
  | 96 => pg96
  | 97 => pg97
  | 98 => pg98
  | 99 => pg99
  | 100 => pg100
  | 101 => pg101
  | 102 => pg102
  | 103 => pg103
  | 104 => pg104
  | 105 => pg105
  | _ => []
def mAct (mi : Nat) : List Instr := match mi with
  | 0 => ac0
  | 1 => ac1
  | 2 => ac2
  | 3 => ac3
  | 4 => ac4
  | 5 => ac5
  | 6 => ac6
  | 7 => ac7
  | 8 => ac8
  | 9 => ac9
  | 10 => ac10
  | 11 => ac11
  | 12 => ac12
  | 13 => ac13
  | 14 => ac14
  | 15 => ac15
  | 16 => ac16
  | 17 => ac17
  | 18 => ac18
  | 19 => ac19
  | 20 => ac20
  | 21 => ac21
  | 22 => ac22
  | 23 => ac23
  | 24 => ac24
  | 25 => ac25
  | 26 => ac26
  | 27 => ac27
  | 28 => ac28
  | 29 => ac29
  | 30 => ac30
  | 31 => ac31
  | 32 => ac32
  | 33 => ac33
  | 34 => ac34
  | 35 => ac35
  | 36 => ac36
  | 37 => ac37
  | 38 => ac38
  | 39 => ac39
  | 40 => ac40
  | 41 => ac41
  | 42 => ac42
  | 43 => ac43
  | 44 => ac44
  | 45 => ac45
  | 46 => ac46
  | 47 => ac47
  | 48 => ac48
  | 49 => ac49
  | 50 => ac50
  | 51 => ac51
  | 52 => ac52
  | 53 => ac53
  | 54 => ac54
  | 55 => ac55
  | 56 => ac56
  | 57 => ac57
  | 58 => ac58
  | 59 => ac59
  | 60 => ac60
  | 61 => ac61
  | 62 => ac62
  | 63 => ac63
  | 64 => ac64
  | 65 => ac65
  | 66 => ac66
  | 67 => ac67
  | 68 => ac68
  | 69 => ac69
  | 70 => ac70
  | 71 => ac71
  | 72 => ac72
  | 73 => ac73
  | 74 => ac74
  | 75 => ac75
  | 76 => ac76
  | 77 => ac77
  | 78 => ac78
  | 79 => ac79
  | 80 => ac80
  | 81 => ac81
  | 82 => ac82
  | 83 => ac83
  | 84 => ac84
  | 85 => ac85
  | 86 => ac86
  | 87 => ac87
  | 88 => ac88
  | 89 => ac89
  | 90 => ac90
  | 91 => ac91
  | 92 => ac92
  | 93 => ac93
  | 94 => ac94
  | 95 => ac95
  | 96 => ac96
  | 97 => ac97
  | 98 => ac98
  | 99 => ac99
  | 100 => ac100
  | 101 => ac101
  | 102 => ac102
  | 103 => ac103
  | 104 => ac104
  | 105 => ac105
  | _ => []
def mPar (mi : Nat) : Nat := match mi with
  | 0 => 1
  | 1 => 2
  | 2 => 3
  | 3 => 1
  | 4 => 2
  | 5 => 2
  | 6 => 1
  | 7 => 4
  | 8 => 2
  | 9 => 1
  | 10 => 1
  | 11 => 3
  | 12 => 1
  | 13 => 1
  | 14 => 1
  | 15 => 2
  | 16 => 2
  | 17 => 2
  | 18 => 1
  | 19 => 2
  | 20 => 2
  | 21 => 2
  | 22 => 2
  | 23 => 4
  | 24 => 3
  | 25 => 2
  | 26 => 2
  | 27 => 3
  | 28 => 2
  | 29 => 1
  | 30 => 1
  | 31 => 2
  | 32 => 1
  | 33 => 2
  | 34 => 2
  | 35 => 1
  | 36 => 2
  | 37 => 1
  | 38 => 2
  | 39 => 3
  | 40 => 3
  | 41 => 2
  | 42 => 1
  | 43 => 2
  | 44 => 2
  | 45 => 1
  | 46 => 1
  | 47 => 1
  | 48 => 1
  | 49 => 1
  | 50 => 1
  | 51 => 2
  | 52 => 2
  | 53 => 1
  | 54 => 2
  | 55 => 2
  | 56 => 1
  | 57 => 1
  | 58 => 2
  | 59 => 4
  | 60 => 3
  | 61 => 2
  | 62 => 2
  | 63 => 2
  | 64 => 3
  | 65 => 3
  | 66 => 3
  | 67 => 2
  | 68 => 3
  | 69 => 3
  | 70 => 1
  | 71 => 2
  | 72 => 2
  | 73 => 1
  | 74 => 2
  | 75 => 1
  | 76 => 2
  | 77 => 1
  | 78 => 2
  | 79 => 1
  | 80 => 2
  | 81 => 1
  | 82 => 1
  | 83 => 2
  | 84 => 1
  | 85 => 2
  | 86 => 4
  | 87 => 2
  | 88 => 2
  | 89 => 1
  | 90 => 1
  | 91 => 1
  | 92 => 1
  | 93 => 2
  | 94 => 2
  | 95 => 2
  | 96 => 2
  | 97 => 1
  | 98 => 1
  | 99 => 2
  | 100 => 2
  | 101 => 2
  | 102 => 2
  | 103 => 3
  | 104 => 3
  | 105 => 1
  | _ => 0
def mCls (mi : Nat) : Nat := match mi with
  | 0 => 0
  | 1 => 0
  | 2 => 0
  | 3 => 0
  | 4 => 0
  | 5 => 0
  | 6 => 1
  | 7 => 1
  | 8 => 1
  | 9 => 1
  | 10 => 1
  | 11 => 1
  | 12 => 1
  | 13 => 1
  | 14 => 2
  | 15 => 2
  | 16 => 2
  | 17 => 2
  | 18 => 3
  | 19 => 3
  | 20 => 3
  | 21 => 3
  | 22 => 3
  | 23 => 3
  | 24 => 3
  | 25 => 3
  | 26 => 3
  | 27 => 3
  | 28 => 3
  | 29 => 3
  | 30 => 3
  | 31 => 3
  | 32 => 3
  | 33 => 3
  | 34 => 3
  | 35 => 3
  | 36 => 3
  | 37 => 3
  | 38 => 3
  | 39 => 3
  | 40 => 3
  | 41 => 3
  | 42 => 3
  | 43 => 3
  | 44 => 3
  | 45 => 3
  | 46 => 3
  | 47 => 3
  | 48 => 3
  | 49 => 3
  | 50 => 4
  | 51 => 4
  | 52 => 4
  | 53 => 4
  | 54 => 4
  | 55 => 4
  | 56 => 4
  | 57 => 5
  | 58 => 5
  | 59 => 5
  | 60 => 5
  | 61 => 5
  | 62 => 5
  | 63 => 5
  | 64 => 5
  | 65 => 5
  | 66 => 5
  | 67 => 5
  | 68 => 5
  | 69 => 5
  | 70 => 5
  | 71 => 5
  | 72 => 5
  | 73 => 5
  | 74 => 5
  | 75 => 5
  | 76 => 5
  | 77 => 5
  | 78 => 5
  | 79 => 5
  | 80 => 5
  | 81 => 5
  | 82 => 5
  | 83 => 5
  | 84 => 5
  | 85 => 5
  | 86 => 5
  | 87 => 5
  | 88 => 5
  | 89 => 5
  | 90 => 5
  | 91 => 7
  | 92 => 7
  | 93 => 8
  | 94 => 8
  | 95 => 6
  | 96 => 6
  | 97 => 6
  | 98 => 6
  | 99 => 6
  | 100 => 6
  | 101 => 6
  | 102 => 6
  | 103 => 6
  | 104 => 6
  | 105 => 6
  | _ => 0
def mMax (mi : Nat) : Nat := match mi with
  | 0 => 1
  | 1 => 3
  | 2 => 3
  | 3 => 2
  | 4 => 2
  | 5 => 2
  | 6 => 1
  | 7 => 4
  | 8 => 2
  | 9 => 1
  | 10 => 1
  | 11 => 3
  | 12 => 1
  | 13 => 2
  | 14 => 1
  | 15 => 2
  | 16 => 2
  | 17 => 2
  | 18 => 2
  | 19 => 3
  | 20 => 2
  | 21 => 2
  | 22 => 2
  | 23 => 4
  | 24 => 6
  | 25 => 2
  | 26 => 2
  | 27 => 4
  | 28 => 4
  | 29 => 5
  | 30 => 3
  | 31 => 3
  | 32 => 5
  | 33 => 2
  | 34 => 2
  | 35 => 1
  | 36 => 2
  | 37 => 6
  | 38 => 4
  | 39 => 6
  | 40 => 6
  | 41 => 2
  | 42 => 4
  | 43 => 4
  | 44 => 4
  | 45 => 4
  | 46 => 3
  | 47 => 3
  | 48 => 3
  | 49 => 3
  | 50 => 1
  | 51 => 2
  | 52 => 4
  | 53 => 1
  | 54 => 2
  | 55 => 4
  | 56 => 1
  | 57 => 2
  | 58 => 2
  | 59 => 4
  | 60 => 3
  | 61 => 2
  | 62 => 2
  | 63 => 2
  | 64 => 3
  | 65 => 4
  | 66 => 4
  | 67 => 2
  | 68 => 3
  | 69 => 4
  | 70 => 1
  | 71 => 3
  | 72 => 4
  | 73 => 4
  | 74 => 5
  | 75 => 1
  | 76 => 2
  | 77 => 2
  | 78 => 2
  | 79 => 2
  | 80 => 2
  | 81 => 1
  | 82 => 1
  | 83 => 3
  | 84 => 3
  | 85 => 5
  | 86 => 4
  | 87 => 3
  | 88 => 2
  | 89 => 1
  | 90 => 4
  | 91 => 2
  | 92 => 1
  | 93 => 2
  | 94 => 2
  | 95 => 2
  | 96 => 2
  | 97 => 5
  | 98 => 11
  | 99 => 13
  | 100 => 2
  | 101 => 7
  | 102 => 11
  | 103 => 13
  | 104 => 12
  | 105 => 11
  | _ => 0
def mDep (mi : Nat) : Nat := match mi with
  | 0 => 1
  | 1 => 0
  | 2 => 1
  | 3 => 0
  | 4 => 0
  | 5 => 0
  | 6 => 1
  | 7 => 0
  | 8 => 0
  | 9 => 0
  | 10 => 0
  | 11 => 1
  | 12 => 1
  | 13 => 0
  | 14 => 1
  | 15 => 0
  | 16 => 0
  | 17 => 1
  | 18 => 2
  | 19 => 1
  | 20 => 0
  | 21 => 0
  | 22 => 1
  | 23 => 1
  | 24 => 4
  | 25 => 1
  | 26 => 1
  | 27 => 0
  | 28 => 4
  | 29 => 3
  | 30 => 2
  | 31 => 2
  | 32 => 2
  | 33 => 0
  | 34 => 0
  | 35 => 1
  | 36 => 3
  | 37 => 2
  | 38 => 0
  | 39 => 1
  | 40 => 0
  | 41 => 2
  | 42 => 2
  | 43 => 1
  | 44 => 1
  | 45 => 2
  | 46 => 2
  | 47 => 0
  | 48 => 0
  | 49 => 1
  | 50 => 1
  | 51 => 0
  | 52 => 2
  | 53 => 0
  | 54 => 0
  | 55 => 1
  | 56 => 0
  | 57 => 3
  | 58 => 3
  | 59 => 3
  | 60 => 5
  | 61 => 3
  | 62 => 3
  | 63 => 5
  | 64 => 3
  | 65 => 3
  | 66 => 2
  | 67 => 2
  | 68 => 1
  | 69 => 4
  | 70 => 3
  | 71 => 1
  | 72 => 4
  | 73 => 4
  | 74 => 4
  | 75 => 1
  | 76 => 3
  | 77 => 0
  | 78 => 1
  | 79 => 0
  | 80 => 7
  | 81 => 7
  | 82 => 2
  | 83 => 1
  | 84 => 0
  | 85 => 6
  | 86 => 0
  | 87 => 5
  | 88 => 0
  | 89 => 1
  | 90 => 0
  | 91 => 0
  | 92 => 0
  | 93 => 0
  | 94 => 0
  | 95 => 0
  | 96 => 0
  | 97 => 4
  | 98 => 4
  | 99 => 5
  | 100 => 2
  | 101 => 4
  | 102 => 8
  | 103 => 6
  | 104 => 9
  | 105 => 10
  | _ => 0
def mRk (mi : Nat) : Nat := match mi with
  | 0 => 0
  | 1 => 0
  | 2 => 0
  | 3 => 0
  | 4 => 1
  | 5 => 1
  | 6 => 0
  | 7 => 0
  | 8 => 0
  | 9 => 0
  | 10 => 0
  | 11 => 0
  | 12 => 0
  | 13 => 1
  | 14 => 0
  | 15 => 0
  | 16 => 0
  | 17 => 2
  | 18 => 0
  | 19 => 0
  | 20 => 2
  | 21 => 2
  | 22 => 1
  | 23 => 1
  | 24 => 1
  | 25 => 1
  | 26 => 1
  | 27 => 1
  | 28 => 1
  | 29 => 1
  | 30 => 0
  | 31 => 0
  | 32 => 1
  | 33 => 0
  | 34 => 0
  | 35 => 1
  | 36 => 1
  | 37 => 1
  | 38 => 1
  | 39 => 1
  | 40 => 1
  | 41 => 1
  | 42 => 1
  | 43 => 1
  | 44 => 1
  | 45 => 1
  | 46 => 1
  | 47 => 1
  | 48 => 1
  | 49 => 1
  | 50 => 0
  | 51 => 2
  | 52 => 2
  | 53 => 1
  | 54 => 2
  | 55 => 2
  | 56 => 2
  | 57 => 0
  | 58 => 1
  | 59 => 1
  | 60 => 1
  | 61 => 1
  | 62 => 1
  | 63 => 1
  | 64 => 1
  | 65 => 1
  | 66 => 1
  | 67 => 1
  | 68 => 1
  | 69 => 1
  | 70 => 1
  | 71 => 1
  | 72 => 1
  | 73 => 1
  | 74 => 1
  | 75 => 1
  | 76 => 1
  | 77 => 1
  | 78 => 1
  | 79 => 1
  | 80 => 1
  | 81 => 1
  | 82 => 3
  | 83 => 1
  | 84 => 0
  | 85 => 1
  | 86 => 0
  | 87 => 1
  | 88 => 2
  | 89 => 1
  | 90 => 1
  | 91 => 1
  | 92 => 1
  | 93 => 1
  | 94 => 1
  | 95 => 1
  | 96 => 1
  | 97 => 4
  | 98 => 2
  | 99 => 2
  | 100 => 2
  | 101 => 2
  | 102 => 2
  | 103 => 2
  | 104 => 2
  | 105 => 2
  | _ => 0
def mNam (mi : Nat) : MethodName := match mi with
  | 0 => ⟨"CoatedBridges$Book", "<init>", "()V"⟩
  | 1 => ⟨"CoatedBridges$Book", "copyFrom", "(LCoatedBridges$Book;)V"⟩
  | 2 => ⟨"CoatedBridges$Book", "note", "(II)V"⟩
  | 3 => ⟨"CoatedBridges$Book", "dropFirst", "()V"⟩
  | 4 => ⟨"CoatedBridges$Book", "dayAgo", "(I)I"⟩
  | 5 => ⟨"CoatedBridges$Book", "complaintsAgo", "(I)I"⟩
  | 6 => ⟨"CoatedBridges$Bridge", "<init>", "()V"⟩
  | 7 => ⟨"CoatedBridges$Bridge", "begin", "(III)V"⟩
  | 8 => ⟨"CoatedBridges$Bridge", "copyFrom", "(LCoatedBridges$Bridge;)V"⟩
  | 9 => ⟨"CoatedBridges$Bridge", "takeCrew", "()V"⟩
  | 10 => ⟨"CoatedBridges$Bridge", "loseCrew", "()V"⟩
  | 11 => ⟨"CoatedBridges$Bridge", "paint", "(II)V"⟩
  | 12 => ⟨"CoatedBridges$Bridge", "wearOff", "()V"⟩
  | 13 => ⟨"CoatedBridges$Bridge", "daysUntilRusted", "()I"⟩
  | 14 => ⟨"CoatedBridges$Island", "<init>", "()V"⟩
  | 15 => ⟨"CoatedBridges$Island", "begin", "(I)V"⟩
  | 16 => ⟨"CoatedBridges$Island", "copyFrom", "(LCoatedBridges$Island;)V"⟩
  | 17 => ⟨"CoatedBridges$Island", "waitAlone", "(I)Z"⟩
  | 18 => ⟨"CoatedBridges$State", "<init>", "()V"⟩
  | 19 => ⟨"CoatedBridges$State", "copyFrom", "(LCoatedBridges$State;)V"⟩
  | 20 => ⟨"CoatedBridges$State", "hasIsland", "(I)Z"⟩
  | 21 => ⟨"CoatedBridges$State", "hasBridge", "(I)Z"⟩
  | 22 => ⟨"CoatedBridges$State", "addIsland", "(I)I"⟩
  | 23 => ⟨"CoatedBridges$State", "addBridge", "(III)I"⟩
  | 24 => ⟨"CoatedBridges$State", "sendCrew", "(II)I"⟩
  | 25 => ⟨"CoatedBridges$State", "callBack", "(I)I"⟩
  | 26 => ⟨"CoatedBridges$State", "payIn", "(I)I"⟩
  | 27 => ⟨"CoatedBridges$State", "changeSetting", "(II)I"⟩
  | 28 => ⟨"CoatedBridges$State", "endDays", "(I)I"⟩
  | 29 => ⟨"CoatedBridges$State", "endDay", "()I"⟩
  | 30 => ⟨"CoatedBridges$State", "paintBridges", "()V"⟩
  | 31 => ⟨"CoatedBridges$State", "wearBridges", "(I)V"⟩
  | 32 => ⟨"CoatedBridges$State", "letIslandsWait", "()I"⟩
  | 33 => ⟨"CoatedBridges$State", "payFerry", "(LCoatedBridges$Island;)V"⟩
  | 34 => ⟨"CoatedBridges$State", "receive", "(I)V"⟩
  | 35 => ⟨"CoatedBridges$State", "freeCrews", "()I"⟩
  | 36 => ⟨"CoatedBridges$State", "reasonAgainst", "(I)I"⟩
  | 37 => ⟨"CoatedBridges$State", "bridgeToPaintNext", "()I"⟩
  | 38 => ⟨"CoatedBridges$State", "bridgesThatAre", "(I)I"⟩
  | 39 => ⟨"CoatedBridges$State", "reachFrom", "(II)I"⟩
  | 40 => ⟨"CoatedBridges$State", "oneBridgeOn", "(II)I"⟩
  | 41 => ⟨"CoatedBridges$State", "lostWithout", "(I)I"⟩
  | 42 => ⟨"CoatedBridges$State", "neededBridges", "()I"⟩
  | 43 => ⟨"CoatedBridges$State", "bridgesTo", "(I)I"⟩
  | 44 => ⟨"CoatedBridges$State", "openBridgesAt", "(I)I"⟩
  | 45 => ⟨"CoatedBridges$State", "groups", "()I"⟩
  | 46 => ⟨"CoatedBridges$State", "lowestOnes", "()I"⟩
  | 47 => ⟨"CoatedBridges$State", "coatsTogether", "()I"⟩
  | 48 => ⟨"CoatedBridges$State", "complaintsSoFar", "()I"⟩
  | 49 => ⟨"CoatedBridges$State", "longestWaitSoFar", "()I"⟩
  | 50 => ⟨"CoatedBridges$Text", "<init>", "()V"⟩
  | 51 => ⟨"CoatedBridges$Text", "append", "(C)Z"⟩
  | 52 => ⟨"CoatedBridges$Text", "readOrder", "(I)Z"⟩
  | 53 => ⟨"CoatedBridges$Text", "numbersOf", "(C)I"⟩
  | 54 => ⟨"CoatedBridges$Text", "take", "(C)Z"⟩
  | 55 => ⟨"CoatedBridges$Text", "readNumber", "(I)Z"⟩
  | 56 => ⟨"CoatedBridges$Text", "atDigit", "()Z"⟩
  | 57 => ⟨"CoatedBridges", "<init>", "()V"⟩
  | 58 => ⟨"CoatedBridges", "island", "(I)I"⟩
  | 59 => ⟨"CoatedBridges", "bridge", "(III)I"⟩
  | 60 => ⟨"CoatedBridges", "send", "(II)I"⟩
  | 61 => ⟨"CoatedBridges", "recall", "(I)I"⟩
  | 62 => ⟨"CoatedBridges", "pay", "(I)I"⟩
  | 63 => ⟨"CoatedBridges", "days", "(I)I"⟩
  | 64 => ⟨"CoatedBridges", "set", "(II)I"⟩
  | 65 => ⟨"CoatedBridges", "bridgeOf", "(II)I"⟩
  | 66 => ⟨"CoatedBridges", "islandOf", "(II)I"⟩
  | 67 => ⟨"CoatedBridges", "reach", "(I)I"⟩
  | 68 => ⟨"CoatedBridges", "book", "(II)I"⟩
  | 69 => ⟨"CoatedBridges", "why", "(II)I"⟩
  | 70 => ⟨"CoatedBridges", "best", "()I"⟩
  | 71 => ⟨"CoatedBridges", "rustsIn", "(I)I"⟩
  | 72 => ⟨"CoatedBridges", "paintedIn", "(I)I"⟩
  | 73 => ⟨"CoatedBridges", "aloneIn", "()I"⟩
  | 74 => ⟨"CoatedBridges", "ifDays", "(I)I"⟩
  | 75 => ⟨"CoatedBridges", "mean", "()I"⟩
  | 76 => ⟨"CoatedBridges", "count", "(I)I"⟩
  | 77 => ⟨"CoatedBridges", "undo", "()I"⟩
  | 78 => ⟨"CoatedBridges", "type", "(I)I"⟩
  | 79 => ⟨"CoatedBridges", "clearText", "()I"⟩
  | 80 => ⟨"CoatedBridges", "fault", "(I)I"⟩
  | 81 => ⟨"CoatedBridges", "play", "()I"⟩
  | 82 => ⟨"CoatedBridges", "startTrial", "()LCoatedBridges$State;"⟩
  | 83 => ⟨"CoatedBridges", "settle", "(I)I"⟩
  | 84 => ⟨"CoatedBridges", "dropOldest", "()V"⟩
  | 85 => ⟨"CoatedBridges", "obeyText", "(LCoatedBridges$State;)I"⟩
  | 86 => ⟨"CoatedBridges", "noteFault", "(III)V"⟩
  | 87 => ⟨"CoatedBridges", "obeyOrder", "(LCoatedBridges$State;)I"⟩
  | 88 => ⟨"CoatedBridges", "holds", "(II)Z"⟩
  | 89 => ⟨"CoatedBridges", "lowestIn", "(I)I"⟩
  | 90 => ⟨"CoatedBridges", "bitsOf", "(F)I"⟩
  | 91 => ⟨"java/lang/Integer", "numberOfTrailingZeros", "(I)I"⟩
  | 92 => ⟨"java/lang/Integer", "bitCount", "(I)I"⟩
  | 93 => ⟨"java/lang/Math", "max", "(II)I"⟩
  | 94 => ⟨"java/lang/Math", "min", "(II)I"⟩
  | 95 => ⟨"CoatedBridgesLaw", "lot", "([II)I"⟩
  | 96 => ⟨"CoatedBridgesLaw", "low", "(II)I"⟩
  | 97 => ⟨"CoatedBridgesLaw", "look", "(LCoatedBridges;)J"⟩
  | 98 => ⟨"CoatedBridgesLaw", "holds", "(LCoatedBridges;)Z"⟩
  | 99 => ⟨"CoatedBridgesLaw", "would", "(LCoatedBridges;I)Z"⟩
  | 100 => ⟨"CoatedBridgesLaw", "number", "(LCoatedBridges;I)Z"⟩
  | 101 => ⟨"CoatedBridgesLaw", "types", "(LCoatedBridges;I)Z"⟩
  | 102 => ⟨"CoatedBridgesLaw", "reads", "(LCoatedBridges;I)Z"⟩
  | 103 => ⟨"CoatedBridgesLaw", "crews", "(LCoatedBridges;II)Z"⟩
  | 104 => ⟨"CoatedBridgesLaw", "acts", "(LCoatedBridges;II)Z"⟩
  | 105 => ⟨"CoatedBridgesLaw", "law", "([I)Z"⟩
  | _ => ⟨"", "", ""⟩
def mByt (mi : Nat) : ByteArray := match mi with
  | 0 => prog_2_method_1_code
  | 1 => prog_2_method_2_code
  | 2 => prog_2_method_3_code
  | 3 => prog_2_method_4_code
  | 4 => prog_2_method_5_code
  | 5 => prog_2_method_6_code
  | 6 => prog_3_method_1_code
  | 7 => prog_3_method_2_code
  | 8 => prog_3_method_3_code
  | 9 => prog_3_method_4_code
  | 10 => prog_3_method_5_code
  | 11 => prog_3_method_6_code
  | 12 => prog_3_method_7_code
  | 13 => prog_3_method_8_code
  | 14 => prog_4_method_1_code
  | 15 => prog_4_method_2_code
  | 16 => prog_4_method_3_code
  | 17 => prog_4_method_4_code
  | 18 => prog_5_method_1_code
  | 19 => prog_5_method_2_code
  | 20 => prog_5_method_3_code
  | 21 => prog_5_method_4_code
  | 22 => prog_5_method_5_code
  | 23 => prog_5_method_6_code
  | 24 => prog_5_method_7_code
  | 25 => prog_5_method_8_code
  | 26 => prog_5_method_9_code
  | 27 => prog_5_method_10_code
  | 28 => prog_5_method_11_code
  | 29 => prog_5_method_12_code
  | 30 => prog_5_method_13_code
  | 31 => prog_5_method_14_code
  | 32 => prog_5_method_15_code
  | 33 => prog_5_method_16_code
  | 34 => prog_5_method_17_code
  | 35 => prog_5_method_18_code
  | 36 => prog_5_method_19_code
  | 37 => prog_5_method_20_code
  | 38 => prog_5_method_21_code
  | 39 => prog_5_method_22_code
  | 40 => prog_5_method_23_code
  | 41 => prog_5_method_24_code
  | 42 => prog_5_method_25_code
  | 43 => prog_5_method_26_code
  | 44 => prog_5_method_27_code
  | 45 => prog_5_method_28_code
  | 46 => prog_5_method_29_code
  | 47 => prog_5_method_30_code
  | 48 => prog_5_method_31_code
  | 49 => prog_5_method_32_code
  | 50 => prog_6_method_1_code
  | 51 => prog_6_method_2_code
  | 52 => prog_6_method_3_code
  | 53 => prog_6_method_4_code
  | 54 => prog_6_method_5_code
  | 55 => prog_6_method_6_code
  | 56 => prog_6_method_7_code
  | 57 => prog_1_method_1_code
  | 58 => prog_1_method_2_code
  | 59 => prog_1_method_3_code
  | 60 => prog_1_method_4_code
  | 61 => prog_1_method_5_code
  | 62 => prog_1_method_6_code
  | 63 => prog_1_method_7_code
  | 64 => prog_1_method_8_code
  | 65 => prog_1_method_9_code
  | 66 => prog_1_method_10_code
  | 67 => prog_1_method_11_code
  | 68 => prog_1_method_12_code
  | 69 => prog_1_method_13_code
  | 70 => prog_1_method_14_code
  | 71 => prog_1_method_15_code
  | 72 => prog_1_method_16_code
  | 73 => prog_1_method_17_code
  | 74 => prog_1_method_18_code
  | 75 => prog_1_method_19_code
  | 76 => prog_1_method_20_code
  | 77 => prog_1_method_21_code
  | 78 => prog_1_method_22_code
  | 79 => prog_1_method_23_code
  | 80 => prog_1_method_24_code
  | 81 => prog_1_method_25_code
  | 82 => prog_1_method_26_code
  | 83 => prog_1_method_27_code
  | 84 => prog_1_method_28_code
  | 85 => prog_1_method_29_code
  | 86 => prog_1_method_30_code
  | 87 => prog_1_method_31_code
  | 88 => prog_1_method_32_code
  | 89 => prog_1_method_33_code
  | 90 => prog_1_method_34_code
  | 91 => prog_10_method_48_code
  | 92 => prog_10_method_49_code
  | 93 => prog_11_method_65_code
  | 94 => prog_11_method_69_code
  | 95 => method_2_code
  | 96 => method_3_code
  | 97 => method_4_code
  | 98 => method_5_code
  | 99 => method_6_code
  | 100 => method_7_code
  | 101 => method_8_code
  | 102 => method_9_code
  | 103 => method_10_code
  | 104 => method_11_code
  | 105 => code
  | _ => code
def mRet (mi : Nat) : Option FieldType := match mi with
  | 0 => (Option.none : Option Jvm.ClassFile.FieldType)
  | 1 => (Option.none : Option Jvm.ClassFile.FieldType)
  | 2 => (Option.none : Option Jvm.ClassFile.FieldType)
  | 3 => (Option.none : Option Jvm.ClassFile.FieldType)
  | 4 => (Option.some Jvm.ClassFile.FieldType.int)
  | 5 => (Option.some Jvm.ClassFile.FieldType.int)
  | 6 => (Option.none : Option Jvm.ClassFile.FieldType)
  | 7 => (Option.none : Option Jvm.ClassFile.FieldType)
  | 8 => (Option.none : Option Jvm.ClassFile.FieldType)
  | 9 => (Option.none : Option Jvm.ClassFile.FieldType)
  | 10 => (Option.none : Option Jvm.ClassFile.FieldType)
  | 11 => (Option.none : Option Jvm.ClassFile.FieldType)
  | 12 => (Option.none : Option Jvm.ClassFile.FieldType)
  | 13 => (Option.some Jvm.ClassFile.FieldType.int)
  | 14 => (Option.none : Option Jvm.ClassFile.FieldType)
  | 15 => (Option.none : Option Jvm.ClassFile.FieldType)
  | 16 => (Option.none : Option Jvm.ClassFile.FieldType)
  | 17 => (Option.some Jvm.ClassFile.FieldType.boolean)
  | 18 => (Option.none : Option Jvm.ClassFile.FieldType)
  | 19 => (Option.none : Option Jvm.ClassFile.FieldType)
  | 20 => (Option.some Jvm.ClassFile.FieldType.boolean)
  | 21 => (Option.some Jvm.ClassFile.FieldType.boolean)
  | 22 => (Option.some Jvm.ClassFile.FieldType.int)
  | 23 => (Option.some Jvm.ClassFile.FieldType.int)
  | 24 => (Option.some Jvm.ClassFile.FieldType.int)
  | 25 => (Option.some Jvm.ClassFile.FieldType.int)
  | 26 => (Option.some Jvm.ClassFile.FieldType.int)
  | 27 => (Option.some Jvm.ClassFile.FieldType.int)
  | 28 => (Option.some Jvm.ClassFile.FieldType.int)
  | 29 => (Option.some Jvm.ClassFile.FieldType.int)
  | 30 => (Option.none : Option Jvm.ClassFile.FieldType)
  | 31 => (Option.none : Option Jvm.ClassFile.FieldType)
  | 32 => (Option.some Jvm.ClassFile.FieldType.int)
  | 33 => (Option.none : Option Jvm.ClassFile.FieldType)
  | 34 => (Option.none : Option Jvm.ClassFile.FieldType)
  | 35 => (Option.some Jvm.ClassFile.FieldType.int)
  | 36 => (Option.some Jvm.ClassFile.FieldType.int)
  | 37 => (Option.some Jvm.ClassFile.FieldType.int)
  | 38 => (Option.some Jvm.ClassFile.FieldType.int)
  | 39 => (Option.some Jvm.ClassFile.FieldType.int)
  | 40 => (Option.some Jvm.ClassFile.FieldType.int)
  | 41 => (Option.some Jvm.ClassFile.FieldType.int)
  | 42 => (Option.some Jvm.ClassFile.FieldType.int)
  | 43 => (Option.some Jvm.ClassFile.FieldType.int)
  | 44 => (Option.some Jvm.ClassFile.FieldType.int)
  | 45 => (Option.some Jvm.ClassFile.FieldType.int)
  | 46 => (Option.some Jvm.ClassFile.FieldType.int)
  | 47 => (Option.some Jvm.ClassFile.FieldType.int)
  | 48 => (Option.some Jvm.ClassFile.FieldType.int)
  | 49 => (Option.some Jvm.ClassFile.FieldType.int)
  | 50 => (Option.none : Option Jvm.ClassFile.FieldType)
  | 51 => (Option.some Jvm.ClassFile.FieldType.boolean)
  | 52 => (Option.some Jvm.ClassFile.FieldType.boolean)
  | 53 => (Option.some Jvm.ClassFile.FieldType.int)
  | 54 => (Option.some Jvm.ClassFile.FieldType.boolean)
  | 55 => (Option.some Jvm.ClassFile.FieldType.boolean)
  | 56 => (Option.some Jvm.ClassFile.FieldType.boolean)
  | 57 => (Option.none : Option Jvm.ClassFile.FieldType)
  | 58 => (Option.some Jvm.ClassFile.FieldType.int)
  | 59 => (Option.some Jvm.ClassFile.FieldType.int)
  | 60 => (Option.some Jvm.ClassFile.FieldType.int)
  | 61 => (Option.some Jvm.ClassFile.FieldType.int)
  | 62 => (Option.some Jvm.ClassFile.FieldType.int)
  | 63 => (Option.some Jvm.ClassFile.FieldType.int)
  | 64 => (Option.some Jvm.ClassFile.FieldType.int)
  | 65 => (Option.some Jvm.ClassFile.FieldType.int)
  | 66 => (Option.some Jvm.ClassFile.FieldType.int)
  | 67 => (Option.some Jvm.ClassFile.FieldType.int)
  | 68 => (Option.some Jvm.ClassFile.FieldType.int)
  | 69 => (Option.some Jvm.ClassFile.FieldType.int)
  | 70 => (Option.some Jvm.ClassFile.FieldType.int)
  | 71 => (Option.some Jvm.ClassFile.FieldType.int)
  | 72 => (Option.some Jvm.ClassFile.FieldType.int)
  | 73 => (Option.some Jvm.ClassFile.FieldType.int)
  | 74 => (Option.some Jvm.ClassFile.FieldType.int)
  | 75 => (Option.some Jvm.ClassFile.FieldType.int)
  | 76 => (Option.some Jvm.ClassFile.FieldType.int)
  | 77 => (Option.some Jvm.ClassFile.FieldType.int)
  | 78 => (Option.some Jvm.ClassFile.FieldType.int)
  | 79 => (Option.some Jvm.ClassFile.FieldType.int)
  | 80 => (Option.some Jvm.ClassFile.FieldType.int)
  | 81 => (Option.some Jvm.ClassFile.FieldType.int)
  | 82 => (Option.some (Jvm.ClassFile.FieldType.object "CoatedBridges$State"))
  | 83 => (Option.some Jvm.ClassFile.FieldType.int)
  | 84 => (Option.none : Option Jvm.ClassFile.FieldType)
  | 85 => (Option.some Jvm.ClassFile.FieldType.int)
  | 86 => (Option.none : Option Jvm.ClassFile.FieldType)
  | 87 => (Option.some Jvm.ClassFile.FieldType.int)
  | 88 => (Option.some Jvm.ClassFile.FieldType.boolean)
  | 89 => (Option.some Jvm.ClassFile.FieldType.int)
  | 90 => (Option.some Jvm.ClassFile.FieldType.int)
  | 91 => (Option.some Jvm.ClassFile.FieldType.int)
  | 92 => (Option.some Jvm.ClassFile.FieldType.int)
  | 93 => (Option.some Jvm.ClassFile.FieldType.int)
  | 94 => (Option.some Jvm.ClassFile.FieldType.int)
  | 95 => (Option.some Jvm.ClassFile.FieldType.int)
  | 96 => (Option.some Jvm.ClassFile.FieldType.int)
  | 97 => (Option.some Jvm.ClassFile.FieldType.long)
  | 98 => (Option.some Jvm.ClassFile.FieldType.boolean)
  | 99 => (Option.some Jvm.ClassFile.FieldType.boolean)
  | 100 => (Option.some Jvm.ClassFile.FieldType.boolean)
  | 101 => (Option.some Jvm.ClassFile.FieldType.boolean)
  | 102 => (Option.some Jvm.ClassFile.FieldType.boolean)
  | 103 => (Option.some Jvm.ClassFile.FieldType.boolean)
  | 104 => (Option.some Jvm.ClassFile.FieldType.boolean)
  | 105 => ((Option.some (Jvm.ClassFile.FieldType.boolean)))
  | _ => none
/-- own class, pool entry, class and field (100 * class + number), the place of its word -/
def lkF_0 : List (Nat × Nat × Nat × Nat) := [(0, 9, 0, 58), (0, 15, 1, 59), (0, 18, 2, 60), (1, 9, 100, 106), (1, 15, 101, 108), (1, 18, 102, 110), (1, 21, 103, 112), (1, 24, 104, 114), (1, 27, 105, 117), (1, 30, 106, 120), (1, 33, 107, 122), (1, 36, 108, 125), (2, 7, 200, 75), (2, 13, 201, 78), (2, 16, 202, 81), (2, 19, 203, 84), (2, 22, 204, 87), (3, 11, 300, 146), (3, 19, 301, 148), (3, 32, 302, 150), (3, 38, 303, 152), (3, 42, 304, 154), (3, 46, 307, 160), (3, 55, 305, 156), (3, 64, 306, 158), (3, 67, 308, 162), (3, 70, 309, 164), (3, 73, 310, 166), (3, 103, 105, 118), (3, 109, 104, 115), (3, 155, 107, 124), (3, 162, 201, 80), (3, 165, 200, 77), (3, 174, 204, 89), (3, 194, 102, 111), (3, 200, 203, 86), (3, 203, 202, 83), (4, 9, 400, 198), (4, 15, 402, 201), (4, 19, 401, 199), (4, 23, 404, 205), (4, 26, 403, 203), (5, 10, 500, 219), (5, 16, 501, 220), (5, 19, 502, 221), (5, 26, 504, 223), (5, 66, 301, 149), (5, 70, 100, 107), (5, 76, 101, 109), (5, 79, 103, 113), (5, 82, 104, 116), (5, 85, 105, 119), (5, 88, 106, 121), (5, 91, 107, 123), (5, 94, 108, 126), (5, 108, 300, 147), (5, 115, 201, 79), (5, 120, 200, 76), (5, 123, 203, 85), (5, 126, 202, 82)]
def lkF_1 : List (Nat × Nat × Nat × Nat) := [(5, 129, 204, 88), (5, 138, 303, 153), (5, 170, 305, 157), (5, 180, 302, 151), (5, 184, 306, 159), (5, 187, 304, 155), (5, 208, 307, 161), (5, 211, 308, 163), (5, 212, 309, 165), (5, 215, 310, 167), (5, 218, 2, 61), (5, 221, 503, 222), (5, 224, 401, 200), (5, 234, 505, 224), (5, 237, 506, 225), (5, 240, 507, 226), (5, 253, 404, 206), (5, 263, 402, 202), (5, 266, 403, 204)]
def lkF : List (Nat × Nat × Nat × Nat) := lkF_0 ++ (lkF_1)
/-- own class, pool entry, constant, place -/
def lkK : List (Nat × Nat × Int × Nat) := [(0, 25, -1000004, 358), (3, 76, -1000001, 522), (3, 77, -1000003, 523), (3, 96, -1000002, 562), (3, 112, 999999, 580), (3, 190, -1000004, 349), (5, 65, -1000001, 248), (5, 159, -1000004, 375), (5, 163, -1000002, 310), (5, 229, -1000003, 621), (7, 264, 65536, 283), (7, 265, 1431655765, 292), (7, 266, 858993459, 293), (7, 267, 252645135, 294), (6, 7, -169810581, 314), (6, 8, 2147483647, 318), (6, 34, -1000004, 370), (6, 60, -1000001, 509), (6, 61, -1000002, 510), (6, 81, -1000003, 536), (6, 102, 999999, 581)]
def lkFK : List (Nat × Nat × Nat × Nat) := [(5, 275, 1258291200, 383)]
def lkLK : List (Nat × Nat × Nat × Nat) := [(6, 9, 367, 322), (6, 11, 31, 323)]
def lkA : List (Nat × Nat × Nat × Nat) := [(3, 9, 13, 39), (3, 17, 14, 41), (5, 7, 15, 33)]
def lkN : List (Nat × Nat × Nat × Nat × Nat × Nat) := [(3, 35, 0, 52, 53, 19), (3, 9, 2, 39, 70, 20), (3, 17, 1, 41, 101, 21), (5, 7, 3, 33, 34, 18), (5, 23, 4, 192, 193, 22), (6, 14, 5, 25, 26, 17)]
def lkO : List (Nat × Nat × Nat) := [(0, 3, 57), (1, 3, 105), (2, 1, 74), (3, 3, 38), (4, 3, 197), (5, 1, 30)]
def lkS : List (Nat × Nat × Nat) := [(3, 23, 0), (3, 116, 1), (3, 119, 2)]
def lkC : List (Nat × Nat × Nat) := [(3, 27, 45)]
def lkB : List (Nat × Nat × Nat) := []
def lkX : List (Nat × Nat × Nat) := [(3, 28, 51)]
/-- own class, pool entry, callee, kind, places: link, instance or static, selects, code, initialised -/
def lkM_0 : List (Nat × Nat × Nat × Nat × Nat × Nat × Nat × Nat × Nat) := [(0, 22, 3, 0, 479, 481, 6, 482, 19), (1, 39, 94, 1, 446, 447, 0, 448, 24), (1, 45, 10, 0, 449, 450, 451, 452, 21), (1, 48, 93, 1, 461, 296, 0, 297, 24), (2, 25, 93, 1, 474, 296, 0, 297, 24), (3, 37, 0, 5, 54, 55, 0, 56, 19), (3, 49, 14, 5, 71, 72, 0, 73, 20), (3, 50, 6, 5, 102, 103, 0, 104, 21), (3, 51, 16, 0, 422, 423, 424, 425, 20), (3, 58, 8, 0, 426, 427, 428, 429, 21), (3, 61, 1, 0, 430, 431, 432, 433, 19), (3, 78, 15, 0, 524, 525, 526, 527, 20), (3, 82, 20, 0, 545, 338, 339, 340, 18), (3, 86, 7, 0, 546, 547, 548, 549, 21), (3, 89, 21, 0, 491, 329, 330, 331, 18), (3, 92, 36, 0, 561, 392, 393, 394, 18), (3, 97, 41, 0, 396, 397, 398, 399, 18), (3, 100, 9, 0, 492, 493, 494, 495, 21), (3, 106, 10, 0, 571, 450, 451, 452, 21), (3, 113, 34, 0, 483, 485, 7, 486, 18), (3, 122, 29, 0, 590, 435, 436, 437, 18), (3, 126, 38, 0, 288, 258, 259, 260, 18), (3, 129, 30, 0, 438, 440, 2, 441, 18), (3, 132, 31, 0, 453, 455, 3, 456, 18), (3, 135, 32, 0, 462, 464, 4, 465, 18), (3, 138, 2, 0, 475, 476, 477, 478, 19), (3, 142, 37, 0, 487, 488, 489, 490, 18), (3, 145, 11, 0, 442, 443, 444, 445, 21), (3, 148, 88, 4, 270, 271, 0, 272, 17), (3, 152, 12, 0, 457, 458, 459, 460, 21), (3, 158, 39, 0, 265, 250, 251, 252, 18), (3, 168, 33, 0, 466, 468, 5, 469, 18), (3, 171, 17, 0, 470, 471, 472, 473, 20), (3, 177, 92, 1, 289, 290, 0, 291, 23), (3, 182, 93, 1, 295, 296, 0, 297, 24), (3, 187, 35, 0, 395, 285, 286, 287, 18), (3, 191, 40, 0, 253, 255, 0, 256, 18), (3, 197, 89, 4, 277, 278, 0, 279, 17), (4, 30, 53, 1, 637, 638, 0, 639, 22), (4, 34, 54, 0, 640, 642, 11, 643, 22)]
def lkM_1 : List (Nat × Nat × Nat × Nat × Nat × Nat × Nat × Nat × Nat) := [(4, 38, 55, 0, 644, 646, 12, 647, 22), (4, 42, 56, 0, 648, 650, 13, 651, 22), (5, 9, 18, 2, 35, 36, 0, 37, 18), (5, 25, 50, 5, 194, 195, 0, 196, 22), (5, 30, 82, 0, 414, 416, 1, 417, 17), (5, 34, 22, 0, 518, 519, 520, 521, 18), (5, 38, 83, 0, 528, 530, 8, 531, 17), (5, 41, 23, 0, 541, 542, 543, 544, 18), (5, 45, 24, 0, 557, 558, 559, 560, 18), (5, 49, 25, 0, 567, 568, 569, 570, 18), (5, 52, 26, 0, 576, 577, 578, 579, 18), (5, 55, 28, 0, 586, 587, 588, 589, 18), (5, 58, 27, 0, 595, 596, 597, 598, 18), (5, 61, 21, 0, 328, 329, 330, 331, 18), (5, 97, 42, 0, 261, 262, 263, 264, 18), (5, 101, 88, 1, 332, 271, 0, 272, 17), (5, 105, 20, 0, 337, 338, 339, 340, 18), (5, 112, 39, 0, 249, 250, 251, 252, 18), (5, 132, 44, 0, 341, 342, 343, 344, 18), (5, 135, 43, 0, 345, 346, 347, 348, 18), (5, 142, 4, 0, 354, 355, 356, 357, 19), (5, 147, 5, 0, 359, 360, 361, 362, 19), (5, 150, 36, 0, 391, 392, 393, 394, 18), (5, 153, 41, 0, 400, 397, 398, 399, 18), (5, 156, 89, 1, 401, 278, 0, 279, 17), (5, 160, 37, 0, 500, 488, 489, 490, 18), (5, 164, 13, 0, 406, 407, 408, 409, 21), (5, 167, 29, 0, 434, 435, 436, 437, 18), (5, 173, 47, 0, 376, 377, 378, 379, 18), (5, 176, 90, 1, 380, 381, 0, 382, 17), (5, 190, 38, 0, 257, 258, 259, 260, 18), (5, 193, 45, 0, 266, 267, 268, 269, 18), (5, 196, 46, 0, 273, 274, 275, 276, 18), (5, 199, 35, 0, 284, 285, 286, 287, 18), (5, 202, 48, 0, 298, 299, 300, 301, 18), (5, 205, 49, 0, 302, 303, 304, 305, 18), (5, 225, 51, 0, 617, 618, 619, 620, 22), (5, 230, 85, 0, 629, 631, 10, 632, 17), (5, 243, 19, 0, 418, 419, 420, 421, 18), (5, 247, 84, 0, 532, 534, 9, 535, 17)]
def lkM_2 : List (Nat × Nat × Nat × Nat × Nat × Nat × Nat × Nat × Nat) := [(5, 250, 52, 0, 633, 634, 635, 636, 22), (5, 256, 86, 0, 652, 654, 14, 655, 17), (5, 260, 87, 0, 656, 658, 15, 659, 17), (5, 270, 91, 1, 280, 281, 0, 282, 23), (6, 13, 76, 0, 244, 245, 246, 247, 17), (6, 19, 65, 0, 324, 325, 326, 327, 17), (6, 23, 66, 0, 333, 334, 335, 336, 17), (6, 26, 68, 0, 350, 351, 352, 353, 17), (6, 29, 67, 0, 366, 367, 368, 369, 17), (6, 35, 75, 0, 371, 372, 373, 374, 17), (6, 39, 96, 1, 315, 316, 0, 317, 16), (6, 42, 69, 0, 387, 388, 389, 390, 17), (6, 45, 71, 0, 402, 403, 404, 405, 17), (6, 48, 72, 0, 410, 411, 412, 413, 17), (6, 51, 70, 0, 496, 497, 498, 499, 17), (6, 54, 73, 0, 501, 502, 503, 504, 17), (6, 57, 74, 0, 505, 506, 507, 508, 17), (6, 62, 78, 0, 613, 614, 615, 616, 17), (6, 65, 79, 0, 609, 610, 611, 612, 17), (6, 68, 100, 1, 622, 623, 0, 624, 16), (6, 72, 101, 1, 606, 607, 0, 608, 16), (6, 75, 80, 0, 625, 626, 627, 628, 17), (6, 78, 81, 0, 660, 661, 662, 663, 17), (6, 82, 60, 0, 553, 554, 555, 556, 17), (6, 85, 61, 0, 563, 564, 565, 566, 17), (6, 88, 58, 0, 514, 515, 516, 517, 17), (6, 91, 59, 0, 537, 538, 539, 540, 17), (6, 95, 103, 1, 550, 551, 0, 552, 16), (6, 99, 62, 0, 572, 573, 574, 575, 17), (6, 103, 63, 0, 582, 583, 584, 585, 17), (6, 106, 64, 0, 591, 592, 593, 594, 17), (6, 109, 102, 1, 603, 604, 0, 605, 16), (6, 112, 57, 2, 27, 28, 0, 29, 17), (6, 113, 98, 1, 363, 364, 0, 365, 16), (6, 117, 99, 1, 384, 385, 0, 386, 16), (6, 120, 77, 0, 306, 307, 308, 309, 17), (6, 123, 95, 1, 311, 312, 0, 313, 16), (6, 127, 97, 1, 319, 320, 0, 321, 16), (6, 131, 104, 1, 511, 512, 0, 513, 16)]
def lkM : List (Nat × Nat × Nat × Nat × Nat × Nat × Nat × Nat × Nat) := lkM_0 ++ (lkM_1 ++ (lkM_2))
/-- the words that do not keep: links of nest mates, what is over a class, castable: a list -/
def nstW : List Cond := [.fieldLinkNest "CoatedBridges$State" 23 "CoatedBridges" "FIRST_SETTINGS" "[I" "CoatedBridges", .fieldLinkNest "CoatedBridges$State" 116 "CoatedBridges" "LOWEST_SETTINGS" "[I" "CoatedBridges", .fieldLinkNest "CoatedBridges$State" 119 "CoatedBridges" "HIGHEST_SETTINGS" "[I" "CoatedBridges", .methodLinkNest "CoatedBridges$State" 37 (⟨"CoatedBridges$Book", "<init>", "()V"⟩ : MethodName) "CoatedBridges", .methodLinkNest "CoatedBridges$State" 49 (⟨"CoatedBridges$Island", "<init>", "()V"⟩ : MethodName) "CoatedBridges", .methodLinkNest "CoatedBridges$State" 50 (⟨"CoatedBridges$Bridge", "<init>", "()V"⟩ : MethodName) "CoatedBridges", .methodLinkNest "CoatedBridges$State" 148 (⟨"CoatedBridges", "holds", "(II)Z"⟩ : MethodName) "CoatedBridges", .methodLinkNest "CoatedBridges$State" 197 (⟨"CoatedBridges", "lowestIn", "(I)I"⟩ : MethodName) "CoatedBridges", .methodLinkNest "CoatedBridges" 25 (⟨"CoatedBridges$Text", "<init>", "()V"⟩ : MethodName) "CoatedBridges"]
def nstP : List Nat := [43, 599, 601, 54, 71, 102, 270, 277, 194]
