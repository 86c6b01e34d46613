/-! the levels of nets of 6 posts: tables and certificates, by program (gen/mt) -/
def T6_0 : List Nat := [0]
def T6_1 : List Nat := [72057594037927936]
def T6_2 : List Nat := [72057594038976512, 76561193665298432]
def T6_3 : List Nat := [72057594038976513, 299135882231808, 1114128, 281479272726528]
def T6_4 : List Nat := [72057594039042064, 4785074889293824, 299071457787904, 1099528409344, 4503599627374609, 4803766301753344]
def T6_5 : List Nat := [4503603922403345, 281475245150480, 281475245211665, 76842668927221760, 1099528409360, 1099528409105]
def T6_6 : List Nat := [76578790164135936, 4802739804569601, 72057667052437521, 76561197960331281, 4802739821346816, 4803766586966016]
def T6_7 : List Nat := [4521196376821777, 4785147618590737, 299140194045952]
def T6_8 : List Nat := [4802740073009168]
def T6_9 : List Nat := [4802740073009169]
def T6_10 : List Nat := []
def T6_11 : List Nat := []
def T6_12 : List Nat := []
def T6_13 : List Nat := []
def T6_14 : List Nat := []
theorem ck6_0_0 : fchk 6 T6_1 0 [[0, 35610], [0, 68377], [0, 72472], [0, 101137], [0, 105232], [0, 109320], [0, 133841], [0, 137936], [0, 142024], [0, 146056], [0, 166097], [0, 170192], [0, 174280], [0, 178312], [0, 181896]] = true := by decide +kernel
theorem fl6_1 : FLev 6 1 T6_1 := flev_step (F := T6_0) (by decide) (by decide) (flev_0 6) (List.forall_mem_cons.mpr ⟨⟨_, ck6_0_0⟩, fun _ h => absurd h List.not_mem_nil⟩)
theorem ck6_1_0 : fchk 6 T6_2 72057594037927936 [[0, 180762], [0, 181273], [0, 181336], [0, 181777], [0, 181840], [0, 181896], [0, 16928977], [0, 16929488], [0, 16929992], [0, 16930440], [0, 16957649], [0, 16958160], [0, 16958664], [0, 16959112], [1, 5]] = true := by decide +kernel
theorem fl6_2 : FLev 6 2 T6_2 := flev_step (F := T6_1) (by decide) (by decide) (fl6_1) (List.forall_mem_cons.mpr ⟨⟨_, ck6_1_0⟩, fun _ h => absurd h List.not_mem_nil⟩)
theorem ck6_2_0 : fchk 6 T6_3 72057594038976512 [[0, 181896], [0, 16865473], [0, 16865480], [0, 16898177], [0, 16898184], [1, 3], [0, 16921921], [0, 16921928], [0, 33589419], [0, 33589482], [0, 16954625], [0, 16954632], [0, 33589923], [0, 33589986], [1, 5]] = true := by decide +kernel
theorem ck6_2_1 : fchk 6 T6_3 76561193665298432 [[0, 16945434], [0, 16949529], [0, 16950040], [0, 33626848], [0, 33622753], [0, 33589986], [0, 33626904], [0, 33622809], [0, 33590042], [1, 5, 4], [0, 50475345], [0, 50475856], [0, 50476360], [1, 5], [1, 5]] = true := by decide +kernel
theorem fl6_3 : FLev 6 3 T6_3 := flev_step (F := T6_2) (by decide) (by decide) (fl6_2) (List.forall_mem_cons.mpr ⟨⟨_, ck6_2_0⟩, List.forall_mem_cons.mpr ⟨⟨_, ck6_2_1⟩, fun _ h => absurd h List.not_mem_nil⟩⟩)
theorem ck6_3_0 : fchk 6 T6_4 72057594038976513 [[1, 1], [0, 181273], [0, 181336], [0, 181777], [0, 181840], [1, 3], [0, 108585], [0, 108648], [0, 34987], [0, 35050], [0, 109089], [0, 109152], [0, 35491], [0, 35554], [1, 5]] = true := by decide +kernel
theorem ck6_3_1 : fchk 6 T6_4 299135882231808 [[0, 146000], [0, 146056], [1, 5, 2], [0, 16954464], [0, 33597784], [0, 33626456], [0, 16958552], [0, 33597280], [0, 33625952], [1, 4], [0, 50401565], [1, 5], [1, 5], [0, 67241613], [0, 67209357]] = true := by decide +kernel
theorem ck6_3_2 : fchk 6 T6_4 1114128 [[1, 2, 3, 1], [1, 2], [1, 3, 2], [1, 2, 3], [1, 3], [1, 3], [0, 33626309], [0, 33654925], [0, 67163906], [0, 67130635], [0, 33626820], [0, 33655436], [0, 67159874], [0, 67126603], [0, 181896]] = true := by decide +kernel
theorem ck6_3_3 : fchk 6 T6_4 281479272726528 [[0, 50513474], [0, 83958552], [0, 83954457], [0, 67114850], [0, 67143522], [1, 3], [0, 67115354], [0, 67144026], [1, 4], [1, 2, 4], [0, 67115802], [0, 67144474], [1, 5], [1, 2, 5], [1, 2, 5]] = true := by decide +kernel
theorem fl6_4 : FLev 6 4 T6_4 := flev_step (F := T6_3) (by decide) (by decide) (fl6_3) (List.forall_mem_cons.mpr ⟨⟨_, ck6_3_0⟩, List.forall_mem_cons.mpr ⟨⟨_, ck6_3_1⟩, List.forall_mem_cons.mpr ⟨⟨_, ck6_3_2⟩, List.forall_mem_cons.mpr ⟨⟨_, ck6_3_3⟩, fun _ h => absurd h List.not_mem_nil⟩⟩⟩⟩)
theorem ck6_4_0 : fchk 6 T6_5 72057594039042064 [[1, 2, 3, 1], [1, 2], [1, 3, 2], [1, 2, 3], [1, 3], [1, 3], [0, 55056], [0, 21785], [0, 16798371], [0, 16830690], [0, 51024], [0, 17753], [0, 16794283], [0, 16826602], [1, 5]] = true := by decide +kernel
theorem ck6_4_1 : fchk 6 T6_5 4785074889293824 [[1, 4, 1], [0, 105232], [0, 101137], [0, 72472], [0, 68377], [1, 5, 3], [1, 4], [1, 4], [0, 33657186], [0, 33624419], [0, 33600808], [0, 33568041], [1, 5], [1, 5], [0, 50513544]] = true := by decide +kernel
theorem ck6_4_2 : fchk 6 T6_5 299071457787904 [[0, 33697933], [0, 33669205], [1, 5, 2], [0, 132329], [1, 3], [1, 5, 1, 3], [0, 99114], [1, 5, 2, 4], [1, 4], [1, 1, 5, 2, 4], [0, 16795473], [1, 5], [1, 5], [1, 1, 5], [1, 2, 5]] = true := by decide +kernel
theorem ck6_4_3 : fchk 6 T6_5 1099528409344 [[0, 67290704], [0, 67290760], [1, 2], [1, 3], [0, 33642563], [0, 33609859], [1, 4], [0, 33642052], [0, 33609348], [1, 0, 4], [1, 5], [0, 33637957], [0, 33605253], [1, 0, 5], [1, 0, 5]] = true := by decide +kernel
theorem ck6_4_4 : fchk 6 T6_5 4503599627374609 [[1, 1], [1, 2], [1, 0, 2], [1, 3], [1, 0, 3], [1, 0, 3], [0, 67248872], [0, 16865305], [0, 16832538], [0, 50432785], [1, 3, 5], [1, 0, 3, 5], [1, 0, 3, 5], [1, 5], [0, 33694531]] = true := by decide +kernel
theorem ck6_4_5 : fchk 6 T6_5 4803766301753344 [[1, 5, 1], [1, 5, 2], [1, 5, 2], [1, 5, 3], [1, 5, 3], [1, 5, 3], [0, 67215909], [0, 67215461], [0, 67211429], [0, 67178725], [1, 5], [1, 5], [1, 5], [1, 5], [0, 84030533]] = true := by decide +kernel
theorem fl6_5 : FLev 6 5 T6_5 := flev_step (F := T6_4) (by decide) (by decide) (fl6_4) (List.forall_mem_cons.mpr ⟨⟨_, ck6_4_0⟩, List.forall_mem_cons.mpr ⟨⟨_, ck6_4_1⟩, List.forall_mem_cons.mpr ⟨⟨_, ck6_4_2⟩, List.forall_mem_cons.mpr ⟨⟨_, ck6_4_3⟩, List.forall_mem_cons.mpr ⟨⟨_, ck6_4_4⟩, List.forall_mem_cons.mpr ⟨⟨_, ck6_4_5⟩, fun _ h => absurd h List.not_mem_nil⟩⟩⟩⟩⟩⟩)
theorem ck6_5_0 : chk 6 4 T6_6 4503603922403345 [0, 0, 0, 0, 0, 107053, 0, 16820254, 0, 33732689, 16792149, 0, 33696282, 0, 50513545] = true := by decide +kernel
theorem ck6_5_1 : chk 6 4 T6_6 281475245150480 [0, 0, 0, 0, 69869, 0, 66348, 0, 0, 33727012, 0, 0, 0, 16857613, 16861764] = true := by decide +kernel
theorem ck6_5_2 : chk 6 4 T6_6 281475245211665 [0, 0, 0, 0, 0, 67180077, 0, 0, 67180588, 0, 0, 83929321, 0, 33691179, 33658923] = true := by decide +kernel
theorem ck6_5_3 : chk 6 4 T6_6 76842668927221760 [0, 181274, 181337, 181778, 181841, 0, 0, 0, 0, 0, 0, 0, 0, 0, 0] = true := by decide +kernel
theorem ck6_5_4 : chk 6 4 T6_6 1099528409360 [0, 0, 0, 0, 83893019, 0, 0, 83892963, 0, 0, 0, 83892459, 0, 0, 0] = true := by decide +kernel
theorem ck6_5_5 : chk 6 4 T6_6 1099528409105 [0, 0, 0, 0, 0, 0, 0, 0, 0, 0, 0, 0, 0, 0, 0] = true := by decide +kernel
theorem lv6_5 : Lev 6 5 1 T6_5 := lev_of_flev (by decide) fl6_5
theorem lv6_6 : Lev 6 6 4 T6_6 := lev_step (T := T6_5) (th := 1) (by decide) (by decide) (by decide) lv6_5 (by decide) (List.forall_mem_cons.mpr ⟨⟨_, ck6_5_0⟩, List.forall_mem_cons.mpr ⟨⟨_, ck6_5_1⟩, List.forall_mem_cons.mpr ⟨⟨_, ck6_5_2⟩, List.forall_mem_cons.mpr ⟨⟨_, ck6_5_3⟩, List.forall_mem_cons.mpr ⟨⟨_, ck6_5_4⟩, List.forall_mem_cons.mpr ⟨⟨_, ck6_5_5⟩, fun _ h => absurd h List.not_mem_nil⟩⟩⟩⟩⟩⟩)
theorem ck6_6_0 : chk 6 14 T6_7 76578790164135936 [103469, 0, 0, 0, 0, 0, 0, 0, 0, 0, 0, 0, 0, 0, 0] = true := by decide +kernel
theorem ck6_6_1 : chk 6 14 T6_7 4802739804569601 [0, 104491, 0, 71724, 0, 0, 16886537, 0, 0, 0, 0, 0, 0, 0, 0] = true := by decide +kernel
theorem ck6_6_2 : chk 6 14 T6_7 72057667052437521 [0, 0, 0, 0, 0, 0, 0, 0, 0, 0, 16951322, 16955473, 33604806, 33572494, 0] = true := by decide +kernel
theorem ck6_6_3 : chk 6 14 T6_7 76561197960331281 [0, 0, 33727257, 33698130, 0, 170011, 33669451, 173602, 0, 33572494, 144489, 33641220, 33608901, 0, 0] = true := by decide +kernel
theorem ck6_6_4 : chk 6 14 T6_7 4802739821346816 [16886537, 0, 0, 0, 0, 0, 0, 0, 0, 0, 0, 0, 0, 0, 0] = true := by decide +kernel
theorem ck6_6_5 : chk 6 14 T6_7 4803766586966016 [0, 0, 0, 0, 0, 0, 0, 0, 0, 0, 0, 0, 0, 0, 0] = true := by decide +kernel
theorem lv6_7 : Lev 6 7 14 T6_7 := lev_step (T := T6_6) (th := 4) (by decide) (by decide) (by decide) lv6_6 (by decide) (List.forall_mem_cons.mpr ⟨⟨_, ck6_6_0⟩, List.forall_mem_cons.mpr ⟨⟨_, ck6_6_1⟩, List.forall_mem_cons.mpr ⟨⟨_, ck6_6_2⟩, List.forall_mem_cons.mpr ⟨⟨_, ck6_6_3⟩, List.forall_mem_cons.mpr ⟨⟨_, ck6_6_4⟩, List.forall_mem_cons.mpr ⟨⟨_, ck6_6_5⟩, fun _ h => absurd h List.not_mem_nil⟩⟩⟩⟩⟩⟩)
theorem ck6_7_0 : chk 6 36 T6_8 4521196376821777 [0, 0, 0, 0, 0, 0, 0, 0, 0, 104491, 0, 0, 72228, 0, 0] = true := by decide +kernel
theorem ck6_7_1 : chk 6 36 T6_8 4785147618590737 [0, 0, 0, 0, 0, 0, 0, 0, 0, 0, 0, 0, 0, 0, 0] = true := by decide +kernel
theorem ck6_7_2 : chk 6 36 T6_8 299140194045952 [0, 0, 0, 0, 0, 0, 0, 0, 0, 0, 0, 0, 0, 0, 0] = true := by decide +kernel
theorem lv6_8 : Lev 6 8 36 T6_8 := lev_step (T := T6_7) (th := 14) (by decide) (by decide) (by decide) lv6_7 (by decide) (List.forall_mem_cons.mpr ⟨⟨_, ck6_7_0⟩, List.forall_mem_cons.mpr ⟨⟨_, ck6_7_1⟩, List.forall_mem_cons.mpr ⟨⟨_, ck6_7_2⟩, fun _ h => absurd h List.not_mem_nil⟩⟩⟩)
theorem ck6_8_0 : chk 6 81 T6_9 4802740073009168 [181897, 0, 0, 0, 0, 0, 0, 0, 0, 0, 0, 0, 0, 0, 0] = true := by decide +kernel
theorem lv6_9 : Lev 6 9 81 T6_9 := lev_step (T := T6_8) (th := 36) (by decide) (by decide) (by decide) lv6_8 (by decide) (List.forall_mem_cons.mpr ⟨⟨_, ck6_8_0⟩, fun _ h => absurd h List.not_mem_nil⟩)
theorem ck6_9_0 : chk 6 162 T6_10 4802740073009169 [0, 0, 0, 0, 0, 0, 0, 0, 0, 0, 0, 0, 0, 0, 0] = true := by decide +kernel
theorem lv6_10 : Lev 6 10 162 T6_10 := lev_step (T := T6_9) (th := 81) (by decide) (by decide) (by decide) lv6_9 (by decide) (List.forall_mem_cons.mpr ⟨⟨_, ck6_9_0⟩, fun _ h => absurd h List.not_mem_nil⟩)
theorem lv6_11 : Lev 6 11 297 T6_11 := lev_step (T := T6_10) (th := 162) (by decide) (by decide) (by decide) lv6_10 (by decide) (fun _ h => absurd h List.not_mem_nil)
theorem lv6_12 : Lev 6 12 508 T6_12 := lev_step (T := T6_11) (th := 297) (by decide) (by decide) (by decide) lv6_11 (by decide) (fun _ h => absurd h List.not_mem_nil)
theorem lv6_13 : Lev 6 13 824 T6_13 := lev_step (T := T6_12) (th := 508) (by decide) (by decide) (by decide) lv6_12 (by decide) (fun _ h => absurd h List.not_mem_nil)
theorem lv6_14 : Lev 6 14 1281 T6_14 := lev_step (T := T6_13) (th := 824) (by decide) (by decide) (by decide) lv6_13 (by decide) (fun _ h => absurd h List.not_mem_nil)
theorem most_6 {L : List (Nat × Nat)} (hl : L.length = 14) (hok : okL 6 L) : tc L (fun v => v) 6 ≤ 1280 := Nat.le_of_lt_succ (lev_none (show Lev 6 14 1281 [] from lv6_14) hl hok)
