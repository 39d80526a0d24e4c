/-! The tables' words that keep (all but those of private names and of nest mates), one list for every method's contract. -/
def tb : List Cond := lw_tbl.filter goodWord
theorem tb_of {w : Cond} (h : w ∈ lw_tbl) (g : goodWord w = true) : w ∈ tb := List.mem_filter.mpr ⟨h, g⟩
theorem tb_in1 (w : Cond) (h : w ∈ tables_1_1) : w ∈ lw_tbl := List.mem_append_right _ (List.mem_append_left _ h)
theorem tb_in2 (w : Cond) (h : w ∈ tables_1_2) : w ∈ lw_tbl := List.mem_append_right _ (List.mem_append_right _ (List.mem_append_left _ h))
theorem tb_in3 (w : Cond) (h : w ∈ tables_1_3) : w ∈ lw_tbl := List.mem_append_right _ (List.mem_append_right _ (List.mem_append_right _ (List.mem_append_left _ h)))
theorem tb_in4 (w : Cond) (h : w ∈ tables_1_4) : w ∈ lw_tbl := List.mem_append_right _ (List.mem_append_right _ (List.mem_append_right _ (List.mem_append_right _ h)))
theorem tb_goodIn {y : MethodName} {c : ByteArray} {n : Nat} {r : Option FieldType} (h : Cond.code y c n r ∈ tb) : GoodIn tb (Cond.code y c n r :: tb) := fun w hw => by
  have hm : w ∈ tb := by
    rcases List.mem_cons.mp hw with e | e
    · rw [e]; exact h
    · exact e
  exact ⟨hm, good_of_word (List.mem_filter.mp hm).2⟩
/-- what the tables say of a method that is called -/
def tb_mV (y : MethodName) (c : ByteArray) (maxL : Nat) (ret : Option FieldType) (n : Nat) : Prop := Cond.code y c maxL ret ∈ tb ∧ Cond.initialized y.cls ∈ tb ∧ Cond.instanceMethod y ∈ tb ∧ Cond.selects y.cls y y ∈ tb ∧ (y.cls ≠ "java/lang/invoke/MethodHandle" ∧ y.cls ≠ "java/lang/invoke/VarHandle" ∧ (parseMethodDescriptor y.desc).map (fun d => d.parameters.length) = some n)
def tb_mS (y : MethodName) (c : ByteArray) (maxL : Nat) (ret : Option FieldType) (n : Nat) : Prop := Cond.code y c maxL ret ∈ tb ∧ Cond.initialized y.cls ∈ tb ∧ Cond.static y ∈ tb ∧ (y.cls ≠ "java/lang/invoke/MethodHandle" ∧ y.cls ≠ "java/lang/invoke/VarHandle" ∧ (parseMethodDescriptor y.desc).map (fun d => d.parameters.length) = some n)
def tb_mI (y : MethodName) (c : ByteArray) (maxL : Nat) (n : Nat) : Prop := Cond.code y c maxL none ∈ tb ∧ Cond.initialized y.cls ∈ tb ∧ Cond.instanceMethod y ∈ tb ∧ y.name = "<init>" ∧ (y.cls ≠ "java/lang/invoke/MethodHandle" ∧ y.cls ≠ "java/lang/invoke/VarHandle" ∧ (parseMethodDescriptor y.desc).map (fun d => d.parameters.length) = some n)
theorem tb_cV {R : Room} {s : State} {args : Array Value} {own : String} {index : Nat} {y : MethodName} {bytes : ByteArray} {maxL n : Nat} {ret : Option FieldType} {rm : Room} {mc ms : Nat} (hts : ∀ w ∈ tb, w.before args s = true) (ok : tb_mV y bytes maxL ret n) (hl : Cond.methodLink own index y ∈ tb) (hrc : rm.cells = mc) (hrs : rm.slots = ms) (hR : rm.frames + 1 ≤ R.frames ∧ 8 + (maxL + 11) + rm.locals ≤ R.locals) : CallW R s args own y.cls index y bytes maxL ret (Cond.code y bytes maxL ret :: tb) rm mc ms n :=
  ⟨callB_of n hts (tb_goodIn ok.1) rfl hrc hrs (hts _ ok.2.1) (hts _ hl) ok.2.2.2.2 hR, hts _ ok.2.2.1, hts _ ok.2.2.2.1⟩
theorem tb_cS {R : Room} {s : State} {args : Array Value} {own : String} {index : Nat} {y : MethodName} {bytes : ByteArray} {maxL n : Nat} {ret : Option FieldType} {rm : Room} {mc ms : Nat} (hts : ∀ w ∈ tb, w.before args s = true) (ok : tb_mS y bytes maxL ret n) (hl : Cond.methodLink own index y ∈ tb) (hrc : rm.cells = mc) (hrs : rm.slots = ms) (hR : rm.frames + 1 ≤ R.frames ∧ 8 + (maxL + 11) + rm.locals ≤ R.locals) : CallB R s args own index y bytes maxL ret (Cond.code y bytes maxL ret :: tb) rm mc ms n ∧ (Cond.static y).before args s = true :=
  ⟨callB_of n hts (tb_goodIn ok.1) rfl hrc hrs (hts _ ok.2.1) (hts _ hl) ok.2.2.2 hR, hts _ ok.2.2.1⟩
theorem tb_cI {R : Room} {s : State} {args : Array Value} {own : String} {index : Nat} {y : MethodName} {bytes : ByteArray} {maxL n : Nat} {rm : Room} {mc ms : Nat} (hts : ∀ w ∈ tb, w.before args s = true) (ok : tb_mI y bytes maxL n) (hl : Cond.methodLink own index y ∈ tb) (hrc : rm.cells = mc) (hrs : rm.slots = ms) (hR : rm.frames + 1 ≤ R.frames ∧ 8 + (maxL + 11) + rm.locals ≤ R.locals) : CallB R s args own index y bytes maxL none (Cond.code y bytes maxL none :: tb) rm mc ms n ∧ y.name = "<init>" ∧ (Cond.instanceMethod y).before args s = true :=
  ⟨callB_of n hts (tb_goodIn ok.1) rfl hrc hrs (hts _ ok.2.1) (hts _ hl) ok.2.2.2.2 hR, ok.2.2.2.1, hts _ ok.2.2.1⟩
theorem tb_0 : (Jvm.Cond.selects "ReedSets$Word" ({ cls := "ReedSets$Word", name := "multiplyFactors", desc := "()V" } : Jvm.MethodName) ({ cls := "ReedSets$Word", name := "multiplyFactors", desc := "()V" } : Jvm.MethodName)) ∈ tb := tb_of (List.mem_append_left _ (List.mem_of_getElem? (i := 0) (by decide +kernel))) rfl
theorem tb_1 : (Jvm.Cond.selects "ReedSets$Solver" ({ cls := "ReedSets$Solver", name := "readSyndromes", desc := "(LReedSets$Word;)V" } : Jvm.MethodName) ({ cls := "ReedSets$Solver", name := "readSyndromes", desc := "(LReedSets$Word;)V" } : Jvm.MethodName)) ∈ tb := tb_of (List.mem_append_left _ (List.mem_of_getElem? (i := 1) (by decide +kernel))) rfl
theorem tb_2 : (Jvm.Cond.selects "ReedSets$Solver" ({ cls := "ReedSets$Solver", name := "locateLost", desc := "(LReedSets$Word;)V" } : Jvm.MethodName) ({ cls := "ReedSets$Solver", name := "locateLost", desc := "(LReedSets$Word;)V" } : Jvm.MethodName)) ∈ tb := tb_of (List.mem_append_left _ (List.mem_of_getElem? (i := 2) (by decide +kernel))) rfl
theorem tb_3 : (Jvm.Cond.selects "ReedSets$Solver" ({ cls := "ReedSets$Solver", name := "locateErrors", desc := "(II)I" } : Jvm.MethodName) ({ cls := "ReedSets$Solver", name := "locateErrors", desc := "(II)I" } : Jvm.MethodName)) ∈ tb := tb_of (List.mem_append_left _ (List.mem_of_getElem? (i := 3) (by decide +kernel))) rfl
theorem tb_4 : (Jvm.Cond.selects "ReedSets$Solver" ({ cls := "ReedSets$Solver", name := "discrepancy", desc := "(II)I" } : Jvm.MethodName) ({ cls := "ReedSets$Solver", name := "discrepancy", desc := "(II)I" } : Jvm.MethodName)) ∈ tb := tb_of (List.mem_append_left _ (List.mem_of_getElem? (i := 4) (by decide +kernel))) rfl
theorem tb_5 : (Jvm.Cond.selects "ReedSets$Solver" ({ cls := "ReedSets$Solver", name := "shiftHelper", desc := "()V" } : Jvm.MethodName) ({ cls := "ReedSets$Solver", name := "shiftHelper", desc := "()V" } : Jvm.MethodName)) ∈ tb := tb_of (List.mem_append_left _ (List.mem_of_getElem? (i := 5) (by decide +kernel))) rfl
theorem tb_6 : (Jvm.Cond.selects "ReedSets$Solver" ({ cls := "ReedSets$Solver", name := "addHelper", desc := "(I)V" } : Jvm.MethodName) ({ cls := "ReedSets$Solver", name := "addHelper", desc := "(I)V" } : Jvm.MethodName)) ∈ tb := tb_of (List.mem_append_left _ (List.mem_of_getElem? (i := 6) (by decide +kernel))) rfl
theorem tb_7 : (Jvm.Cond.selects "ReedSets$Solver" ({ cls := "ReedSets$Solver", name := "keepForLater", desc := "(I)V" } : Jvm.MethodName) ({ cls := "ReedSets$Solver", name := "keepForLater", desc := "(I)V" } : Jvm.MethodName)) ∈ tb := tb_of (List.mem_append_left _ (List.mem_of_getElem? (i := 7) (by decide +kernel))) rfl
theorem tb_8 : (Jvm.Cond.selects "ReedSets$Solver" ({ cls := "ReedSets$Solver", name := "findPlaces", desc := "(LReedSets$Word;I)Z" } : Jvm.MethodName) ({ cls := "ReedSets$Solver", name := "findPlaces", desc := "(LReedSets$Word;I)Z" } : Jvm.MethodName)) ∈ tb := tb_of (List.mem_append_left _ (List.mem_of_getElem? (i := 8) (by decide +kernel))) rfl
theorem tb_9 : (Jvm.Cond.selects "ReedSets$Solver" ({ cls := "ReedSets$Solver", name := "findFixes", desc := "(LReedSets$Word;)V" } : Jvm.MethodName) ({ cls := "ReedSets$Solver", name := "findFixes", desc := "(LReedSets$Word;)V" } : Jvm.MethodName)) ∈ tb := tb_of (List.mem_append_left _ (List.mem_of_getElem? (i := 9) (by decide +kernel))) rfl
theorem tb_10 : (Jvm.Cond.selects "ReedSets$Solver" ({ cls := "ReedSets$Solver", name := "slopeAt", desc := "(I)I" } : Jvm.MethodName) ({ cls := "ReedSets$Solver", name := "slopeAt", desc := "(I)I" } : Jvm.MethodName)) ∈ tb := tb_of (List.mem_append_left _ (List.mem_of_getElem? (i := 10) (by decide +kernel))) rfl
theorem tb_11 : (Jvm.Cond.selects "ReedSets$Solver" ({ cls := "ReedSets$Solver", name := "isRightAfter", desc := "(LReedSets$Word;)Z" } : Jvm.MethodName) ({ cls := "ReedSets$Solver", name := "isRightAfter", desc := "(LReedSets$Word;)Z" } : Jvm.MethodName)) ∈ tb := tb_of (List.mem_append_left _ (List.mem_of_getElem? (i := 11) (by decide +kernel))) rfl
theorem tb_12 : (Jvm.Cond.selects "ReedSets$Solver" ({ cls := "ReedSets$Solver", name := "countErrors", desc := "(LReedSets$Word;)I" } : Jvm.MethodName) ({ cls := "ReedSets$Solver", name := "countErrors", desc := "(LReedSets$Word;)I" } : Jvm.MethodName)) ∈ tb := tb_of (List.mem_append_left _ (List.mem_of_getElem? (i := 12) (by decide +kernel))) rfl
theorem tb_13 : (Jvm.Cond.selects "ReedSets$Striped" ({ cls := "ReedSets$Striped", name := "layStripe", desc := "(I)V" } : Jvm.MethodName) ({ cls := "ReedSets$Striped", name := "layStripe", desc := "(I)V" } : Jvm.MethodName)) ∈ tb := tb_of (List.mem_append_left _ (List.mem_of_getElem? (i := 13) (by decide +kernel))) rfl
theorem tb_14 : (Jvm.Cond.selects "ReedSets$Striped" ({ cls := "ReedSets$Striped", name := "slotOf", desc := "(II)I" } : Jvm.MethodName) ({ cls := "ReedSets$Striped", name := "slotOf", desc := "(II)I" } : Jvm.MethodName)) ∈ tb := tb_of (List.mem_append_left _ (List.mem_of_getElem? (i := 14) (by decide +kernel))) rfl
theorem tb_15 : (Jvm.Cond.selects "ReedSets$Striped" ({ cls := "ReedSets$Striped", name := "storeStripe", desc := "(I)V" } : Jvm.MethodName) ({ cls := "ReedSets$Striped", name := "storeStripe", desc := "(I)V" } : Jvm.MethodName)) ∈ tb := tb_of (List.mem_append_left _ (List.mem_of_getElem? (i := 15) (by decide +kernel))) rfl
theorem tb_16 : (Jvm.Cond.selects "ReedSets$Striped" ({ cls := "ReedSets$Striped", name := "mendStripe", desc := "(ILReedSets$Solver;)I" } : Jvm.MethodName) ({ cls := "ReedSets$Striped", name := "mendStripe", desc := "(ILReedSets$Solver;)I" } : Jvm.MethodName)) ∈ tb := tb_of (List.mem_append_left _ (List.mem_of_getElem? (i := 16) (by decide +kernel))) rfl
theorem tb_17 : (Jvm.Cond.selects "ReedSets$Striped" ({ cls := "ReedSets$Striped", name := "loadStripe", desc := "(I)V" } : Jvm.MethodName) ({ cls := "ReedSets$Striped", name := "loadStripe", desc := "(I)V" } : Jvm.MethodName)) ∈ tb := tb_of (List.mem_append_left _ (List.mem_of_getElem? (i := 17) (by decide +kernel))) rfl
theorem tb_18 : (Jvm.Cond.selects "ReedSets$Sharing" ({ cls := "ReedSets$Sharing", name := "weighBase", desc := "()V" } : Jvm.MethodName) ({ cls := "ReedSets$Sharing", name := "weighBase", desc := "()V" } : Jvm.MethodName)) ∈ tb := tb_of (List.mem_append_left _ (List.mem_of_getElem? (i := 18) (by decide +kernel))) rfl
theorem tb_19 : (Jvm.Cond.selects "ReedSets$Sharing" ({ cls := "ReedSets$Sharing", name := "fits", desc := "(I)Z" } : Jvm.MethodName) ({ cls := "ReedSets$Sharing", name := "fits", desc := "(I)Z" } : Jvm.MethodName)) ∈ tb := tb_of (List.mem_append_left _ (List.mem_of_getElem? (i := 19) (by decide +kernel))) rfl
theorem tb_20 : (Jvm.Cond.selects "ReedSets$Sharing" ({ cls := "ReedSets$Sharing", name := "agreeWithout", desc := "(I)Z" } : Jvm.MethodName) ({ cls := "ReedSets$Sharing", name := "agreeWithout", desc := "(I)Z" } : Jvm.MethodName)) ∈ tb := tb_of (List.mem_append_left _ (List.mem_of_getElem? (i := 20) (by decide +kernel))) rfl
theorem tb_21 : (Jvm.Cond.selects "ReedSetsModel" ({ cls := "ReedSetsModel", name := "makeGenerator", desc := "(II)V" } : Jvm.MethodName) ({ cls := "ReedSetsModel", name := "makeGenerator", desc := "(II)V" } : Jvm.MethodName)) ∈ tb := tb_of (List.mem_append_left _ (List.mem_of_getElem? (i := 21) (by decide +kernel))) rfl
theorem tb_22 : (Jvm.Cond.selects "ReedSetsModel" ({ cls := "ReedSetsModel", name := "isPlace", desc := "(I)Z" } : Jvm.MethodName) ({ cls := "ReedSetsModel", name := "isPlace", desc := "(I)Z" } : Jvm.MethodName)) ∈ tb := tb_of (List.mem_append_left _ (List.mem_of_getElem? (i := 22) (by decide +kernel))) rfl
theorem tb_23 : (Jvm.Cond.selects "ReedSetsModel" ({ cls := "ReedSetsModel", name := "encodeWork", desc := "(III)V" } : Jvm.MethodName) ({ cls := "ReedSetsModel", name := "encodeWork", desc := "(III)V" } : Jvm.MethodName)) ∈ tb := tb_of (List.mem_append_left _ (List.mem_of_getElem? (i := 23) (by decide +kernel))) rfl
theorem tb_24 : (Jvm.Cond.selects "ReedSetsModel" ({ cls := "ReedSetsModel", name := "bringWord", desc := "()V" } : Jvm.MethodName) ({ cls := "ReedSetsModel", name := "bringWord", desc := "()V" } : Jvm.MethodName)) ∈ tb := tb_of (List.mem_append_left _ (List.mem_of_getElem? (i := 24) (by decide +kernel))) rfl
theorem tb_25 : (Jvm.Cond.selects "ReedSetsModel" ({ cls := "ReedSetsModel", name := "valueAt", desc := "(I)I" } : Jvm.MethodName) ({ cls := "ReedSetsModel", name := "valueAt", desc := "(I)I" } : Jvm.MethodName)) ∈ tb := tb_of (List.mem_append_left _ (List.mem_of_getElem? (i := 25) (by decide +kernel))) rfl
theorem tb_26 : (Jvm.Cond.selects "ReedSetsModel" ({ cls := "ReedSetsModel", name := "repairWork", desc := "()I" } : Jvm.MethodName) ({ cls := "ReedSetsModel", name := "repairWork", desc := "()I" } : Jvm.MethodName)) ∈ tb := tb_of (List.mem_append_left _ (List.mem_of_getElem? (i := 26) (by decide +kernel))) rfl
theorem tb_27 : (Jvm.Cond.selects "ReedSetsModel" ({ cls := "ReedSetsModel", name := "locator", desc := "(I)I" } : Jvm.MethodName) ({ cls := "ReedSetsModel", name := "locator", desc := "(I)I" } : Jvm.MethodName)) ∈ tb := tb_of (List.mem_append_left _ (List.mem_of_getElem? (i := 27) (by decide +kernel))) rfl
theorem tb_28 : (Jvm.Cond.selects "ReedSetsModel" ({ cls := "ReedSetsModel", name := "findSpots", desc := "(II)Z" } : Jvm.MethodName) ({ cls := "ReedSetsModel", name := "findSpots", desc := "(II)Z" } : Jvm.MethodName)) ∈ tb := tb_of (List.mem_append_left _ (List.mem_of_getElem? (i := 28) (by decide +kernel))) rfl
theorem tb_29 : (Jvm.Cond.selects "ReedSetsModel" ({ cls := "ReedSetsModel", name := "solve", desc := "(II)Z" } : Jvm.MethodName) ({ cls := "ReedSetsModel", name := "solve", desc := "(II)Z" } : Jvm.MethodName)) ∈ tb := tb_of (List.mem_append_left _ (List.mem_of_getElem? (i := 29) (by decide +kernel))) rfl
theorem tb_30 : (Jvm.Cond.selects "ReedSetsModel" ({ cls := "ReedSetsModel", name := "fill", desc := "(I)Z" } : Jvm.MethodName) ({ cls := "ReedSetsModel", name := "fill", desc := "(I)Z" } : Jvm.MethodName)) ∈ tb := tb_of (List.mem_append_left _ (List.mem_of_getElem? (i := 30) (by decide +kernel))) rfl
theorem tb_31 : (Jvm.Cond.selects "ReedSetsModel" ({ cls := "ReedSetsModel", name := "sentSize", desc := "()I" } : Jvm.MethodName) ({ cls := "ReedSetsModel", name := "sentSize", desc := "()I" } : Jvm.MethodName)) ∈ tb := tb_of (List.mem_append_left _ (List.mem_of_getElem? (i := 31) (by decide +kernel))) rfl
theorem tb_32 : (Jvm.Cond.selects "ReedSetsModel" ({ cls := "ReedSetsModel", name := "isSent", desc := "(I)Z" } : Jvm.MethodName) ({ cls := "ReedSetsModel", name := "isSent", desc := "(I)Z" } : Jvm.MethodName)) ∈ tb := tb_of (List.mem_append_left _ (List.mem_of_getElem? (i := 32) (by decide +kernel))) rfl
theorem tb_33 : (Jvm.Cond.selects "ReedSetsModel" ({ cls := "ReedSetsModel", name := "mendStripe", desc := "(I)I" } : Jvm.MethodName) ({ cls := "ReedSetsModel", name := "mendStripe", desc := "(I)I" } : Jvm.MethodName)) ∈ tb := tb_of (List.mem_append_left _ (List.mem_of_getElem? (i := 33) (by decide +kernel))) rfl
theorem tb_34 : (Jvm.Cond.selects "ReedSetsModel" ({ cls := "ReedSetsModel", name := "whereSent", desc := "(II)I" } : Jvm.MethodName) ({ cls := "ReedSetsModel", name := "whereSent", desc := "(II)I" } : Jvm.MethodName)) ∈ tb := tb_of (List.mem_append_left _ (List.mem_of_getElem? (i := 34) (by decide +kernel))) rfl
theorem tb_35 : (Jvm.Cond.selects "ReedSetsModel" ({ cls := "ReedSetsModel", name := "findUsed", desc := "(I)V" } : Jvm.MethodName) ({ cls := "ReedSetsModel", name := "findUsed", desc := "(I)V" } : Jvm.MethodName)) ∈ tb := tb_of (List.mem_append_left _ (List.mem_of_getElem? (i := 35) (by decide +kernel))) rfl
theorem tb_36 : (Jvm.Cond.selects "ReedSetsModel" ({ cls := "ReedSetsModel", name := "weigh", desc := "(I)V" } : Jvm.MethodName) ({ cls := "ReedSetsModel", name := "weigh", desc := "(I)V" } : Jvm.MethodName)) ∈ tb := tb_of (List.mem_append_left _ (List.mem_of_getElem? (i := 36) (by decide +kernel))) rfl
theorem tb_37 : (Jvm.Cond.selects "ReedSetsModel" ({ cls := "ReedSetsModel", name := "madeBy", desc := "(I)I" } : Jvm.MethodName) ({ cls := "ReedSetsModel", name := "madeBy", desc := "(I)I" } : Jvm.MethodName)) ∈ tb := tb_of (List.mem_append_left _ (List.mem_of_getElem? (i := 37) (by decide +kernel))) rfl
theorem tb_38 : (Jvm.Cond.selects "ReedSetsModel" ({ cls := "ReedSetsModel", name := "unlike", desc := "(II)I" } : Jvm.MethodName) ({ cls := "ReedSetsModel", name := "unlike", desc := "(II)I" } : Jvm.MethodName)) ∈ tb := tb_of (List.mem_append_left _ (List.mem_of_getElem? (i := 38) (by decide +kernel))) rfl
theorem tb_40 : (Jvm.Cond.initialized "ReedSets") ∈ tb := tb_of (tb_in1 _ (List.mem_of_getElem? (i := 1) (by decide +kernel))) rfl
theorem tb_41 : (Jvm.Cond.initialized "ReedSets$Field") ∈ tb := tb_of (tb_in1 _ (List.mem_of_getElem? (i := 2) (by decide +kernel))) rfl
theorem tb_42 : (Jvm.Cond.initialized "ReedSets$Word") ∈ tb := tb_of (tb_in1 _ (List.mem_of_getElem? (i := 3) (by decide +kernel))) rfl
theorem tb_43 : (Jvm.Cond.initialized "java/util/Arrays") ∈ tb := tb_of (tb_in1 _ (List.mem_of_getElem? (i := 4) (by decide +kernel))) rfl
theorem tb_44 : (Jvm.Cond.initialized "ReedSets$Solver") ∈ tb := tb_of (tb_in1 _ (List.mem_of_getElem? (i := 5) (by decide +kernel))) rfl
theorem tb_45 : (Jvm.Cond.initialized "ReedSets$Changes") ∈ tb := tb_of (tb_in1 _ (List.mem_of_getElem? (i := 6) (by decide +kernel))) rfl
theorem tb_46 : (Jvm.Cond.initialized "ReedSets$Striped") ∈ tb := tb_of (tb_in1 _ (List.mem_of_getElem? (i := 7) (by decide +kernel))) rfl
theorem tb_47 : (Jvm.Cond.initialized "ReedSets$Sharing") ∈ tb := tb_of (tb_in1 _ (List.mem_of_getElem? (i := 8) (by decide +kernel))) rfl
theorem tb_48 : (Jvm.Cond.initialized "ReedSetsModel") ∈ tb := tb_of (tb_in1 _ (List.mem_of_getElem? (i := 9) (by decide +kernel))) rfl
theorem tb_49 : (Jvm.Cond.initialized "java/lang/Math") ∈ tb := tb_of (tb_in1 _ (List.mem_of_getElem? (i := 10) (by decide +kernel))) rfl
theorem tb_50 : (Jvm.Cond.initialized "java/lang/System") ∈ tb := tb_of (tb_in1 _ (List.mem_of_getElem? (i := 11) (by decide +kernel))) rfl
theorem tb_54 : (Jvm.Cond.instanceMethod ({ cls := "ReedSets", name := "<init>", desc := "()V" } : Jvm.MethodName)) ∈ tb := tb_of (tb_in1 _ (List.mem_of_getElem? (i := 15) (by decide +kernel))) rfl
theorem tb_55 : (Jvm.Cond.code ({ cls := "ReedSets", name := "<init>", desc := "()V" } : Jvm.MethodName) prog_1_method_1_code (1 : Nat) (Option.none : Option Jvm.ClassFile.FieldType)) ∈ tb := tb_of (tb_in1 _ (List.mem_of_getElem? (i := 16) (by decide +kernel))) rfl
theorem tb_56 : (Jvm.Cond.methodLink "ReedSets" (3 : Nat) ({ cls := "java/lang/Object", name := "<init>", desc := "()V" } : Jvm.MethodName)) ∈ tb := tb_of (tb_in1 _ (List.mem_of_getElem? (i := 17) (by decide +kernel))) rfl
theorem tb_57 : (Jvm.Cond.instanceMethod ({ cls := "java/lang/Object", name := "<init>", desc := "()V" } : Jvm.MethodName)) ∈ tb := tb_of (tb_in1 _ (List.mem_of_getElem? (i := 18) (by decide +kernel))) rfl
theorem tb_58 : (Jvm.Cond.code ({ cls := "java/lang/Object", name := "<init>", desc := "()V" } : Jvm.MethodName) object_method_1_code (1 : Nat) (Option.none : Option Jvm.ClassFile.FieldType)) ∈ tb := tb_of (tb_in1 _ (List.mem_of_getElem? (i := 19) (by decide +kernel))) rfl
theorem tb_59 : (Jvm.Cond.classLink "ReedSets" (9 : Nat) "ReedSets$Field") ∈ tb := tb_of (tb_in1 _ (List.mem_of_getElem? (i := 20) (by decide +kernel))) rfl
theorem tb_60 : (Jvm.Cond.instantiable "ReedSets$Field" (2 : Nat)) ∈ tb := tb_of (tb_in1 _ (List.mem_of_getElem? (i := 21) (by decide +kernel))) rfl
theorem tb_61 : (Jvm.Cond.methodLink "ReedSets" (11 : Nat) ({ cls := "ReedSets$Field", name := "<init>", desc := "()V" } : Jvm.MethodName)) ∈ tb := tb_of (tb_in1 _ (List.mem_of_getElem? (i := 22) (by decide +kernel))) rfl
theorem tb_62 : (Jvm.Cond.instanceMethod ({ cls := "ReedSets$Field", name := "<init>", desc := "()V" } : Jvm.MethodName)) ∈ tb := tb_of (tb_in1 _ (List.mem_of_getElem? (i := 23) (by decide +kernel))) rfl
theorem tb_63 : (Jvm.Cond.code ({ cls := "ReedSets$Field", name := "<init>", desc := "()V" } : Jvm.MethodName) prog_3_method_1_code (3 : Nat) (Option.none : Option Jvm.ClassFile.FieldType)) ∈ tb := tb_of (tb_in1 _ (List.mem_of_getElem? (i := 24) (by decide +kernel))) rfl
theorem tb_64 : (Jvm.Cond.methodLink "ReedSets$Field" (3 : Nat) ({ cls := "java/lang/Object", name := "<init>", desc := "()V" } : Jvm.MethodName)) ∈ tb := tb_of (tb_in1 _ (List.mem_of_getElem? (i := 25) (by decide +kernel))) rfl
theorem tb_65 : (Jvm.Cond.fieldLink "ReedSets$Field" (9 : Nat) "ReedSets$Field" "powers" "[I") ∈ tb := tb_of (tb_in1 _ (List.mem_of_getElem? (i := 26) (by decide +kernel))) rfl
theorem tb_66 : (Jvm.Cond.fieldLink "ReedSets$Field" (15 : Nat) "ReedSets$Field" "logs" "[I") ∈ tb := tb_of (tb_in1 _ (List.mem_of_getElem? (i := 27) (by decide +kernel))) rfl
theorem tb_67 : (Jvm.Cond.laysFinal "ReedSets$Field" "ReedSets$Field" "powers" "[I") ∈ tb := tb_of (tb_in1 _ (List.mem_of_getElem? (i := 28) (by decide +kernel))) rfl
theorem tb_69 : (Jvm.Cond.laysFinal "ReedSets$Field" "ReedSets$Field" "logs" "[I") ∈ tb := tb_of (tb_in1 _ (List.mem_of_getElem? (i := 30) (by decide +kernel))) rfl
theorem tb_72 : (Jvm.Cond.arrayClass Jvm.ClassFile.FieldType.int) ∈ tb := tb_of (tb_in1 _ (List.mem_of_getElem? (i := 33) (by decide +kernel))) rfl
theorem tb_73 : (Jvm.Cond.classLink "ReedSets" (16 : Nat) "ReedSets$Word") ∈ tb := tb_of (tb_in1 _ (List.mem_of_getElem? (i := 34) (by decide +kernel))) rfl
theorem tb_74 : (Jvm.Cond.instantiable "ReedSets$Word" (8 : Nat)) ∈ tb := tb_of (tb_in1 _ (List.mem_of_getElem? (i := 35) (by decide +kernel))) rfl
theorem tb_75 : (Jvm.Cond.methodLink "ReedSets" (18 : Nat) ({ cls := "ReedSets$Word", name := "<init>", desc := "(LReedSets$Field;)V" } : Jvm.MethodName)) ∈ tb := tb_of (tb_in1 _ (List.mem_of_getElem? (i := 36) (by decide +kernel))) rfl
theorem tb_76 : (Jvm.Cond.instanceMethod ({ cls := "ReedSets$Word", name := "<init>", desc := "(LReedSets$Field;)V" } : Jvm.MethodName)) ∈ tb := tb_of (tb_in1 _ (List.mem_of_getElem? (i := 37) (by decide +kernel))) rfl
theorem tb_77 : (Jvm.Cond.code ({ cls := "ReedSets$Word", name := "<init>", desc := "(LReedSets$Field;)V" } : Jvm.MethodName) prog_7_method_1_code (2 : Nat) (Option.none : Option Jvm.ClassFile.FieldType)) ∈ tb := tb_of (tb_in1 _ (List.mem_of_getElem? (i := 38) (by decide +kernel))) rfl
theorem tb_78 : (Jvm.Cond.methodLink "ReedSets$Word" (3 : Nat) ({ cls := "java/lang/Object", name := "<init>", desc := "()V" } : Jvm.MethodName)) ∈ tb := tb_of (tb_in1 _ (List.mem_of_getElem? (i := 39) (by decide +kernel))) rfl
theorem tb_79 : (Jvm.Cond.methodLink "ReedSets$Word" (26 : Nat) ({ cls := "ReedSets$Word", name := "shape", desc := "(III)V" } : Jvm.MethodName)) ∈ tb := tb_of (tb_in1 _ (List.mem_of_getElem? (i := 40) (by decide +kernel))) rfl
theorem tb_80 : (Jvm.Cond.instanceMethod ({ cls := "ReedSets$Word", name := "shape", desc := "(III)V" } : Jvm.MethodName)) ∈ tb := tb_of (tb_in1 _ (List.mem_of_getElem? (i := 41) (by decide +kernel))) rfl
theorem tb_81 : (Jvm.Cond.selects "ReedSets$Word" ({ cls := "ReedSets$Word", name := "shape", desc := "(III)V" } : Jvm.MethodName) ({ cls := "ReedSets$Word", name := "shape", desc := "(III)V" } : Jvm.MethodName)) ∈ tb := tb_of (tb_in1 _ (List.mem_of_getElem? (i := 42) (by decide +kernel))) rfl
theorem tb_82 : (Jvm.Cond.code ({ cls := "ReedSets$Word", name := "shape", desc := "(III)V" } : Jvm.MethodName) prog_7_method_2_code (4 : Nat) (Option.none : Option Jvm.ClassFile.FieldType)) ∈ tb := tb_of (tb_in1 _ (List.mem_of_getElem? (i := 43) (by decide +kernel))) rfl
theorem tb_83 : (Jvm.Cond.methodLink "ReedSets$Word" (40 : Nat) ({ cls := "java/util/Arrays", name := "fill", desc := "([II)V" } : Jvm.MethodName)) ∈ tb := tb_of (tb_in1 _ (List.mem_of_getElem? (i := 44) (by decide +kernel))) rfl
theorem tb_84 : (Jvm.Cond.static ({ cls := "java/util/Arrays", name := "fill", desc := "([II)V" } : Jvm.MethodName)) ∈ tb := tb_of (tb_in1 _ (List.mem_of_getElem? (i := 45) (by decide +kernel))) rfl
theorem tb_85 : (Jvm.Cond.code ({ cls := "java/util/Arrays", name := "fill", desc := "([II)V" } : Jvm.MethodName) prog_12_method_103_code (4 : Nat) (Option.none : Option Jvm.ClassFile.FieldType)) ∈ tb := tb_of (tb_in1 _ (List.mem_of_getElem? (i := 46) (by decide +kernel))) rfl
theorem tb_86 : (Jvm.Cond.methodLink "ReedSets$Word" (46 : Nat) ({ cls := "ReedSets$Word", name := "findAll", desc := "()V" } : Jvm.MethodName)) ∈ tb := tb_of (tb_in1 _ (List.mem_of_getElem? (i := 47) (by decide +kernel))) rfl
theorem tb_87 : (Jvm.Cond.instanceMethod ({ cls := "ReedSets$Word", name := "findAll", desc := "()V" } : Jvm.MethodName)) ∈ tb := tb_of (tb_in1 _ (List.mem_of_getElem? (i := 48) (by decide +kernel))) rfl
theorem tb_88 : (Jvm.Cond.selects "ReedSets$Word" ({ cls := "ReedSets$Word", name := "findAll", desc := "()V" } : Jvm.MethodName) ({ cls := "ReedSets$Word", name := "findAll", desc := "()V" } : Jvm.MethodName)) ∈ tb := tb_of (tb_in1 _ (List.mem_of_getElem? (i := 49) (by decide +kernel))) rfl
theorem tb_89 : (Jvm.Cond.code ({ cls := "ReedSets$Word", name := "findAll", desc := "()V" } : Jvm.MethodName) prog_7_method_6_code (2 : Nat) (Option.none : Option Jvm.ClassFile.FieldType)) ∈ tb := tb_of (tb_in1 _ (List.mem_of_getElem? (i := 50) (by decide +kernel))) rfl
theorem tb_90 : (Jvm.Cond.methodLink "ReedSets$Word" (49 : Nat) ({ cls := "ReedSets$Word", name := "multiplyFactors", desc := "()V" } : Jvm.MethodName)) ∈ tb := tb_of (tb_in1 _ (List.mem_of_getElem? (i := 51) (by decide +kernel))) rfl
theorem tb_92 : (Jvm.Cond.instanceMethod ({ cls := "ReedSets$Word", name := "multiplyFactors", desc := "()V" } : Jvm.MethodName)) ∈ tb := tb_of (tb_in1 _ (List.mem_of_getElem? (i := 53) (by decide +kernel))) rfl
theorem tb_93 : (Jvm.Cond.code ({ cls := "ReedSets$Word", name := "multiplyFactors", desc := "()V" } : Jvm.MethodName) prog_7_method_3_code (4 : Nat) (Option.none : Option Jvm.ClassFile.FieldType)) ∈ tb := tb_of (tb_in1 _ (List.mem_of_getElem? (i := 54) (by decide +kernel))) rfl
theorem tb_94 : (Jvm.Cond.methodLink "ReedSets$Word" (52 : Nat) ({ cls := "ReedSets$Field", name := "powerOfTwo", desc := "(I)I" } : Jvm.MethodName)) ∈ tb := tb_of (tb_in1 _ (List.mem_of_getElem? (i := 55) (by decide +kernel))) rfl
theorem tb_95 : (Jvm.Cond.instanceMethod ({ cls := "ReedSets$Field", name := "powerOfTwo", desc := "(I)I" } : Jvm.MethodName)) ∈ tb := tb_of (tb_in1 _ (List.mem_of_getElem? (i := 56) (by decide +kernel))) rfl
theorem tb_96 : (Jvm.Cond.selects "ReedSets$Field" ({ cls := "ReedSets$Field", name := "powerOfTwo", desc := "(I)I" } : Jvm.MethodName) ({ cls := "ReedSets$Field", name := "powerOfTwo", desc := "(I)I" } : Jvm.MethodName)) ∈ tb := tb_of (tb_in1 _ (List.mem_of_getElem? (i := 57) (by decide +kernel))) rfl
theorem tb_97 : (Jvm.Cond.code ({ cls := "ReedSets$Field", name := "powerOfTwo", desc := "(I)I" } : Jvm.MethodName) prog_3_method_6_code (3 : Nat) (Option.some Jvm.ClassFile.FieldType.int)) ∈ tb := tb_of (tb_in1 _ (List.mem_of_getElem? (i := 58) (by decide +kernel))) rfl
theorem tb_98 : (Jvm.Cond.methodLink "ReedSets$Word" (58 : Nat) ({ cls := "ReedSets$Field", name := "product", desc := "(II)I" } : Jvm.MethodName)) ∈ tb := tb_of (tb_in1 _ (List.mem_of_getElem? (i := 59) (by decide +kernel))) rfl
theorem tb_99 : (Jvm.Cond.instanceMethod ({ cls := "ReedSets$Field", name := "product", desc := "(II)I" } : Jvm.MethodName)) ∈ tb := tb_of (tb_in1 _ (List.mem_of_getElem? (i := 60) (by decide +kernel))) rfl
theorem tb_100 : (Jvm.Cond.selects "ReedSets$Field" ({ cls := "ReedSets$Field", name := "product", desc := "(II)I" } : Jvm.MethodName) ({ cls := "ReedSets$Field", name := "product", desc := "(II)I" } : Jvm.MethodName)) ∈ tb := tb_of (tb_in1 _ (List.mem_of_getElem? (i := 61) (by decide +kernel))) rfl
theorem tb_101 : (Jvm.Cond.code ({ cls := "ReedSets$Field", name := "product", desc := "(II)I" } : Jvm.MethodName) prog_3_method_3_code (3 : Nat) (Option.some Jvm.ClassFile.FieldType.int)) ∈ tb := tb_of (tb_in1 _ (List.mem_of_getElem? (i := 62) (by decide +kernel))) rfl
theorem tb_102 : (Jvm.Cond.fieldLink "ReedSets$Word" (22 : Nat) "ReedSets$Word" "field" "LReedSets$Field;") ∈ tb := tb_of (tb_in1 _ (List.mem_of_getElem? (i := 63) (by decide +kernel))) rfl
theorem tb_103 : (Jvm.Cond.fieldLink "ReedSets$Word" (9 : Nat) "ReedSets$Word" "bytes" "[I") ∈ tb := tb_of (tb_in1 _ (List.mem_of_getElem? (i := 64) (by decide +kernel))) rfl
theorem tb_104 : (Jvm.Cond.fieldLink "ReedSets$Striped" (59 : Nat) "ReedSets$Word" "bytes" "[I") ∈ tb := tb_of (tb_in1 _ (List.mem_of_getElem? (i := 65) (by decide +kernel))) rfl
theorem tb_105 : (Jvm.Cond.fieldLink "ReedSets" (90 : Nat) "ReedSets$Word" "bytes" "[I") ∈ tb := tb_of (tb_in1 _ (List.mem_of_getElem? (i := 66) (by decide +kernel))) rfl
theorem tb_106 : (Jvm.Cond.fieldLink "ReedSets$Solver" (136 : Nat) "ReedSets$Word" "bytes" "[I") ∈ tb := tb_of (tb_in1 _ (List.mem_of_getElem? (i := 67) (by decide +kernel))) rfl
theorem tb_107 : (Jvm.Cond.fieldLink "ReedSets$Word" (15 : Nat) "ReedSets$Word" "lost" "[Z") ∈ tb := tb_of (tb_in1 _ (List.mem_of_getElem? (i := 68) (by decide +kernel))) rfl
theorem tb_108 : (Jvm.Cond.fieldLink "ReedSets$Solver" (92 : Nat) "ReedSets$Word" "lost" "[Z") ∈ tb := tb_of (tb_in1 _ (List.mem_of_getElem? (i := 69) (by decide +kernel))) rfl
theorem tb_109 : (Jvm.Cond.fieldLink "ReedSets" (103 : Nat) "ReedSets$Word" "lost" "[Z") ∈ tb := tb_of (tb_in1 _ (List.mem_of_getElem? (i := 70) (by decide +kernel))) rfl
theorem tb_110 : (Jvm.Cond.fieldLink "ReedSets$Word" (19 : Nat) "ReedSets$Word" "factors" "[I") ∈ tb := tb_of (tb_in1 _ (List.mem_of_getElem? (i := 71) (by decide +kernel))) rfl
theorem tb_111 : (Jvm.Cond.fieldLink "ReedSets" (83 : Nat) "ReedSets$Word" "factors" "[I") ∈ tb := tb_of (tb_in1 _ (List.mem_of_getElem? (i := 72) (by decide +kernel))) rfl
theorem tb_112 : (Jvm.Cond.fieldLink "ReedSets$Solver" (41 : Nat) "ReedSets$Word" "lostCount" "I") ∈ tb := tb_of (tb_in1 _ (List.mem_of_getElem? (i := 73) (by decide +kernel))) rfl
theorem tb_113 : (Jvm.Cond.fieldLink "ReedSets$Word" (66 : Nat) "ReedSets$Word" "lostCount" "I") ∈ tb := tb_of (tb_in1 _ (List.mem_of_getElem? (i := 74) (by decide +kernel))) rfl
theorem tb_114 : (Jvm.Cond.fieldLink "ReedSets" (107 : Nat) "ReedSets$Word" "lostCount" "I") ∈ tb := tb_of (tb_in1 _ (List.mem_of_getElem? (i := 75) (by decide +kernel))) rfl
theorem tb_115 : (Jvm.Cond.fieldLink "ReedSets$Word" (30 : Nat) "ReedSets$Word" "data" "I") ∈ tb := tb_of (tb_in1 _ (List.mem_of_getElem? (i := 76) (by decide +kernel))) rfl
theorem tb_116 : (Jvm.Cond.fieldLink "ReedSets$Striped" (52 : Nat) "ReedSets$Word" "data" "I") ∈ tb := tb_of (tb_in1 _ (List.mem_of_getElem? (i := 77) (by decide +kernel))) rfl
theorem tb_117 : (Jvm.Cond.fieldLink "ReedSets$Word" (34 : Nat) "ReedSets$Word" "repairs" "I") ∈ tb := tb_of (tb_in1 _ (List.mem_of_getElem? (i := 78) (by decide +kernel))) rfl
theorem tb_118 : (Jvm.Cond.fieldLink "ReedSets$Solver" (46 : Nat) "ReedSets$Word" "repairs" "I") ∈ tb := tb_of (tb_in1 _ (List.mem_of_getElem? (i := 79) (by decide +kernel))) rfl
theorem tb_119 : (Jvm.Cond.fieldLink "ReedSets" (79 : Nat) "ReedSets$Word" "repairs" "I") ∈ tb := tb_of (tb_in1 _ (List.mem_of_getElem? (i := 80) (by decide +kernel))) rfl
theorem tb_120 : (Jvm.Cond.fieldLink "ReedSets$Word" (37 : Nat) "ReedSets$Word" "first" "I") ∈ tb := tb_of (tb_in1 _ (List.mem_of_getElem? (i := 81) (by decide +kernel))) rfl
theorem tb_121 : (Jvm.Cond.fieldLink "ReedSets$Solver" (75 : Nat) "ReedSets$Word" "first" "I") ∈ tb := tb_of (tb_in1 _ (List.mem_of_getElem? (i := 82) (by decide +kernel))) rfl
theorem tb_122 : (Jvm.Cond.fieldLink "ReedSets" (110 : Nat) "ReedSets$Word" "first" "I") ∈ tb := tb_of (tb_in1 _ (List.mem_of_getElem? (i := 83) (by decide +kernel))) rfl
theorem tb_123 : (Jvm.Cond.laysFinal "ReedSets$Word" "ReedSets$Word" "field" "LReedSets$Field;") ∈ tb := tb_of (tb_in1 _ (List.mem_of_getElem? (i := 84) (by decide +kernel))) rfl
theorem tb_125 : (Jvm.Cond.laysFinal "ReedSets$Word" "ReedSets$Word" "bytes" "[I") ∈ tb := tb_of (tb_in1 _ (List.mem_of_getElem? (i := 86) (by decide +kernel))) rfl
theorem tb_127 : (Jvm.Cond.laysFinal "ReedSets$Word" "ReedSets$Word" "lost" "[Z") ∈ tb := tb_of (tb_in1 _ (List.mem_of_getElem? (i := 88) (by decide +kernel))) rfl
theorem tb_129 : (Jvm.Cond.laysFinal "ReedSets$Word" "ReedSets$Word" "factors" "[I") ∈ tb := tb_of (tb_in1 _ (List.mem_of_getElem? (i := 90) (by decide +kernel))) rfl
theorem tb_131 : (Jvm.Cond.lays "ReedSets$Word" "ReedSets$Word" "lostCount" "I") ∈ tb := tb_of (tb_in1 _ (List.mem_of_getElem? (i := 92) (by decide +kernel))) rfl
theorem tb_133 : (Jvm.Cond.lays "ReedSets$Word" "ReedSets$Word" "data" "I") ∈ tb := tb_of (tb_in1 _ (List.mem_of_getElem? (i := 94) (by decide +kernel))) rfl
theorem tb_135 : (Jvm.Cond.lays "ReedSets$Word" "ReedSets$Word" "repairs" "I") ∈ tb := tb_of (tb_in1 _ (List.mem_of_getElem? (i := 96) (by decide +kernel))) rfl
theorem tb_137 : (Jvm.Cond.lays "ReedSets$Word" "ReedSets$Word" "first" "I") ∈ tb := tb_of (tb_in1 _ (List.mem_of_getElem? (i := 98) (by decide +kernel))) rfl
theorem tb_140 : (Jvm.Cond.arrayClass Jvm.ClassFile.FieldType.boolean) ∈ tb := tb_of (tb_in1 _ (List.mem_of_getElem? (i := 101) (by decide +kernel))) rfl
theorem tb_141 : (Jvm.Cond.classLink "ReedSets" (25 : Nat) "ReedSets$Solver") ∈ tb := tb_of (tb_in1 _ (List.mem_of_getElem? (i := 102) (by decide +kernel))) rfl
theorem tb_142 : (Jvm.Cond.instantiable "ReedSets$Solver" (9 : Nat)) ∈ tb := tb_of (tb_in1 _ (List.mem_of_getElem? (i := 103) (by decide +kernel))) rfl
theorem tb_143 : (Jvm.Cond.methodLink "ReedSets" (27 : Nat) ({ cls := "ReedSets$Solver", name := "<init>", desc := "(LReedSets$Field;)V" } : Jvm.MethodName)) ∈ tb := tb_of (tb_in1 _ (List.mem_of_getElem? (i := 104) (by decide +kernel))) rfl
theorem tb_144 : (Jvm.Cond.instanceMethod ({ cls := "ReedSets$Solver", name := "<init>", desc := "(LReedSets$Field;)V" } : Jvm.MethodName)) ∈ tb := tb_of (tb_in1 _ (List.mem_of_getElem? (i := 105) (by decide +kernel))) rfl
theorem tb_145 : (Jvm.Cond.code ({ cls := "ReedSets$Solver", name := "<init>", desc := "(LReedSets$Field;)V" } : Jvm.MethodName) prog_5_method_1_code (2 : Nat) (Option.none : Option Jvm.ClassFile.FieldType)) ∈ tb := tb_of (tb_in1 _ (List.mem_of_getElem? (i := 106) (by decide +kernel))) rfl
theorem tb_146 : (Jvm.Cond.methodLink "ReedSets$Solver" (3 : Nat) ({ cls := "java/lang/Object", name := "<init>", desc := "()V" } : Jvm.MethodName)) ∈ tb := tb_of (tb_in1 _ (List.mem_of_getElem? (i := 107) (by decide +kernel))) rfl
theorem tb_147 : (Jvm.Cond.fieldLink "ReedSets$Solver" (33 : Nat) "ReedSets$Solver" "field" "LReedSets$Field;") ∈ tb := tb_of (tb_in1 _ (List.mem_of_getElem? (i := 108) (by decide +kernel))) rfl
theorem tb_148 : (Jvm.Cond.fieldLink "ReedSets$Solver" (9 : Nat) "ReedSets$Solver" "syndromes" "[I") ∈ tb := tb_of (tb_in1 _ (List.mem_of_getElem? (i := 109) (by decide +kernel))) rfl
theorem tb_149 : (Jvm.Cond.fieldLink "ReedSets$Solver" (15 : Nat) "ReedSets$Solver" "locator" "[I") ∈ tb := tb_of (tb_in1 _ (List.mem_of_getElem? (i := 110) (by decide +kernel))) rfl
theorem tb_150 : (Jvm.Cond.fieldLink "ReedSets$Solver" (18 : Nat) "ReedSets$Solver" "helper" "[I") ∈ tb := tb_of (tb_in1 _ (List.mem_of_getElem? (i := 111) (by decide +kernel))) rfl
theorem tb_151 : (Jvm.Cond.fieldLink "ReedSets$Solver" (21 : Nat) "ReedSets$Solver" "kept" "[I") ∈ tb := tb_of (tb_in1 _ (List.mem_of_getElem? (i := 112) (by decide +kernel))) rfl
theorem tb_152 : (Jvm.Cond.fieldLink "ReedSets$Solver" (24 : Nat) "ReedSets$Solver" "evaluator" "[I") ∈ tb := tb_of (tb_in1 _ (List.mem_of_getElem? (i := 113) (by decide +kernel))) rfl
theorem tb_153 : (Jvm.Cond.fieldLink "ReedSets$Solver" (27 : Nat) "ReedSets$Solver" "places" "[I") ∈ tb := tb_of (tb_in1 _ (List.mem_of_getElem? (i := 114) (by decide +kernel))) rfl
theorem tb_154 : (Jvm.Cond.fieldLink "ReedSets" (126 : Nat) "ReedSets$Solver" "places" "[I") ∈ tb := tb_of (tb_in1 _ (List.mem_of_getElem? (i := 115) (by decide +kernel))) rfl
theorem tb_155 : (Jvm.Cond.fieldLink "ReedSets$Solver" (30 : Nat) "ReedSets$Solver" "fixes" "[I") ∈ tb := tb_of (tb_in1 _ (List.mem_of_getElem? (i := 116) (by decide +kernel))) rfl
theorem tb_156 : (Jvm.Cond.fieldLink "ReedSets$Solver" (37 : Nat) "ReedSets$Solver" "found" "I") ∈ tb := tb_of (tb_in1 _ (List.mem_of_getElem? (i := 117) (by decide +kernel))) rfl
theorem tb_157 : (Jvm.Cond.fieldLink "ReedSets" (123 : Nat) "ReedSets$Solver" "found" "I") ∈ tb := tb_of (tb_in1 _ (List.mem_of_getElem? (i := 118) (by decide +kernel))) rfl
theorem tb_158 : (Jvm.Cond.laysFinal "ReedSets$Solver" "ReedSets$Solver" "field" "LReedSets$Field;") ∈ tb := tb_of (tb_in1 _ (List.mem_of_getElem? (i := 119) (by decide +kernel))) rfl
theorem tb_160 : (Jvm.Cond.laysFinal "ReedSets$Solver" "ReedSets$Solver" "syndromes" "[I") ∈ tb := tb_of (tb_in1 _ (List.mem_of_getElem? (i := 121) (by decide +kernel))) rfl
theorem tb_162 : (Jvm.Cond.laysFinal "ReedSets$Solver" "ReedSets$Solver" "locator" "[I") ∈ tb := tb_of (tb_in1 _ (List.mem_of_getElem? (i := 123) (by decide +kernel))) rfl
theorem tb_164 : (Jvm.Cond.laysFinal "ReedSets$Solver" "ReedSets$Solver" "helper" "[I") ∈ tb := tb_of (tb_in1 _ (List.mem_of_getElem? (i := 125) (by decide +kernel))) rfl
theorem tb_166 : (Jvm.Cond.laysFinal "ReedSets$Solver" "ReedSets$Solver" "kept" "[I") ∈ tb := tb_of (tb_in1 _ (List.mem_of_getElem? (i := 127) (by decide +kernel))) rfl
theorem tb_168 : (Jvm.Cond.laysFinal "ReedSets$Solver" "ReedSets$Solver" "evaluator" "[I") ∈ tb := tb_of (tb_in1 _ (List.mem_of_getElem? (i := 129) (by decide +kernel))) rfl
theorem tb_170 : (Jvm.Cond.laysFinal "ReedSets$Solver" "ReedSets$Solver" "places" "[I") ∈ tb := tb_of (tb_in1 _ (List.mem_of_getElem? (i := 131) (by decide +kernel))) rfl
theorem tb_172 : (Jvm.Cond.laysFinal "ReedSets$Solver" "ReedSets$Solver" "fixes" "[I") ∈ tb := tb_of (tb_in1 _ (List.mem_of_getElem? (i := 133) (by decide +kernel))) rfl
theorem tb_174 : (Jvm.Cond.lays "ReedSets$Solver" "ReedSets$Solver" "found" "I") ∈ tb := tb_of (tb_in1 _ (List.mem_of_getElem? (i := 135) (by decide +kernel))) rfl
theorem tb_177 : (Jvm.Cond.classLink "ReedSets" (32 : Nat) "ReedSets$Changes") ∈ tb := tb_of (tb_in1 _ (List.mem_of_getElem? (i := 138) (by decide +kernel))) rfl
theorem tb_178 : (Jvm.Cond.instantiable "ReedSets$Changes" (3 : Nat)) ∈ tb := tb_of (tb_in1 _ (List.mem_of_getElem? (i := 139) (by decide +kernel))) rfl
theorem tb_180 : (Jvm.Cond.instanceMethod ({ cls := "ReedSets$Changes", name := "<init>", desc := "()V" } : Jvm.MethodName)) ∈ tb := tb_of (tb_in1 _ (List.mem_of_getElem? (i := 141) (by decide +kernel))) rfl
theorem tb_181 : (Jvm.Cond.code ({ cls := "ReedSets$Changes", name := "<init>", desc := "()V" } : Jvm.MethodName) prog_2_method_1_code (1 : Nat) (Option.none : Option Jvm.ClassFile.FieldType)) ∈ tb := tb_of (tb_in1 _ (List.mem_of_getElem? (i := 142) (by decide +kernel))) rfl
theorem tb_182 : (Jvm.Cond.methodLink "ReedSets$Changes" (3 : Nat) ({ cls := "java/lang/Object", name := "<init>", desc := "()V" } : Jvm.MethodName)) ∈ tb := tb_of (tb_in1 _ (List.mem_of_getElem? (i := 143) (by decide +kernel))) rfl
theorem tb_183 : (Jvm.Cond.fieldLink "ReedSets$Changes" (9 : Nat) "ReedSets$Changes" "places" "[I") ∈ tb := tb_of (tb_in1 _ (List.mem_of_getElem? (i := 144) (by decide +kernel))) rfl
theorem tb_184 : (Jvm.Cond.fieldLink "ReedSets" (144 : Nat) "ReedSets$Changes" "places" "[I") ∈ tb := tb_of (tb_in1 _ (List.mem_of_getElem? (i := 145) (by decide +kernel))) rfl
theorem tb_185 : (Jvm.Cond.fieldLink "ReedSets$Changes" (15 : Nat) "ReedSets$Changes" "differences" "[I") ∈ tb := tb_of (tb_in1 _ (List.mem_of_getElem? (i := 146) (by decide +kernel))) rfl
theorem tb_186 : (Jvm.Cond.fieldLink "ReedSets" (145 : Nat) "ReedSets$Changes" "differences" "[I") ∈ tb := tb_of (tb_in1 _ (List.mem_of_getElem? (i := 147) (by decide +kernel))) rfl
theorem tb_187 : (Jvm.Cond.fieldLink "ReedSets$Changes" (18 : Nat) "ReedSets$Changes" "count" "I") ∈ tb := tb_of (tb_in1 _ (List.mem_of_getElem? (i := 148) (by decide +kernel))) rfl
theorem tb_188 : (Jvm.Cond.fieldLink "ReedSets" (141 : Nat) "ReedSets$Changes" "count" "I") ∈ tb := tb_of (tb_in1 _ (List.mem_of_getElem? (i := 149) (by decide +kernel))) rfl
theorem tb_189 : (Jvm.Cond.laysFinal "ReedSets$Changes" "ReedSets$Changes" "places" "[I") ∈ tb := tb_of (tb_in1 _ (List.mem_of_getElem? (i := 150) (by decide +kernel))) rfl
theorem tb_191 : (Jvm.Cond.laysFinal "ReedSets$Changes" "ReedSets$Changes" "differences" "[I") ∈ tb := tb_of (tb_in1 _ (List.mem_of_getElem? (i := 152) (by decide +kernel))) rfl
theorem tb_193 : (Jvm.Cond.lays "ReedSets$Changes" "ReedSets$Changes" "count" "I") ∈ tb := tb_of (tb_in1 _ (List.mem_of_getElem? (i := 154) (by decide +kernel))) rfl
theorem tb_196 : (Jvm.Cond.classLink "ReedSets" (39 : Nat) "ReedSets$Striped") ∈ tb := tb_of (tb_in1 _ (List.mem_of_getElem? (i := 157) (by decide +kernel))) rfl
theorem tb_197 : (Jvm.Cond.instantiable "ReedSets$Striped" (8 : Nat)) ∈ tb := tb_of (tb_in1 _ (List.mem_of_getElem? (i := 158) (by decide +kernel))) rfl
theorem tb_198 : (Jvm.Cond.methodLink "ReedSets" (41 : Nat) ({ cls := "ReedSets$Striped", name := "<init>", desc := "(LReedSets$Field;)V" } : Jvm.MethodName)) ∈ tb := tb_of (tb_in1 _ (List.mem_of_getElem? (i := 159) (by decide +kernel))) rfl
theorem tb_199 : (Jvm.Cond.instanceMethod ({ cls := "ReedSets$Striped", name := "<init>", desc := "(LReedSets$Field;)V" } : Jvm.MethodName)) ∈ tb := tb_of (tb_in1 _ (List.mem_of_getElem? (i := 160) (by decide +kernel))) rfl
theorem tb_200 : (Jvm.Cond.code ({ cls := "ReedSets$Striped", name := "<init>", desc := "(LReedSets$Field;)V" } : Jvm.MethodName) prog_6_method_1_code (2 : Nat) (Option.none : Option Jvm.ClassFile.FieldType)) ∈ tb := tb_of (tb_in1 _ (List.mem_of_getElem? (i := 161) (by decide +kernel))) rfl
theorem tb_201 : (Jvm.Cond.methodLink "ReedSets$Striped" (3 : Nat) ({ cls := "java/lang/Object", name := "<init>", desc := "()V" } : Jvm.MethodName)) ∈ tb := tb_of (tb_in1 _ (List.mem_of_getElem? (i := 162) (by decide +kernel))) rfl
theorem tb_202 : (Jvm.Cond.classLink "ReedSets$Striped" (25 : Nat) "ReedSets$Word") ∈ tb := tb_of (tb_in1 _ (List.mem_of_getElem? (i := 163) (by decide +kernel))) rfl
theorem tb_203 : (Jvm.Cond.methodLink "ReedSets$Striped" (27 : Nat) ({ cls := "ReedSets$Word", name := "<init>", desc := "(LReedSets$Field;)V" } : Jvm.MethodName)) ∈ tb := tb_of (tb_in1 _ (List.mem_of_getElem? (i := 164) (by decide +kernel))) rfl
theorem tb_204 : (Jvm.Cond.fieldLink "ReedSets$Striped" (9 : Nat) "ReedSets$Striped" "block" "[I") ∈ tb := tb_of (tb_in1 _ (List.mem_of_getElem? (i := 165) (by decide +kernel))) rfl
theorem tb_205 : (Jvm.Cond.fieldLink "ReedSets$Striped" (15 : Nat) "ReedSets$Striped" "original" "[I") ∈ tb := tb_of (tb_in1 _ (List.mem_of_getElem? (i := 166) (by decide +kernel))) rfl
theorem tb_206 : (Jvm.Cond.fieldLink "ReedSets$Striped" (18 : Nat) "ReedSets$Striped" "lost" "[Z") ∈ tb := tb_of (tb_in1 _ (List.mem_of_getElem? (i := 167) (by decide +kernel))) rfl
theorem tb_207 : (Jvm.Cond.fieldLink "ReedSets$Striped" (30 : Nat) "ReedSets$Striped" "stripe" "LReedSets$Word;") ∈ tb := tb_of (tb_in1 _ (List.mem_of_getElem? (i := 168) (by decide +kernel))) rfl
theorem tb_208 : (Jvm.Cond.fieldLink "ReedSets$Striped" (22 : Nat) "ReedSets$Striped" "current" "[I") ∈ tb := tb_of (tb_in1 _ (List.mem_of_getElem? (i := 169) (by decide +kernel))) rfl
theorem tb_209 : (Jvm.Cond.fieldLink "ReedSets" (170 : Nat) "ReedSets$Striped" "current" "[I") ∈ tb := tb_of (tb_in1 _ (List.mem_of_getElem? (i := 170) (by decide +kernel))) rfl
theorem tb_210 : (Jvm.Cond.fieldLink "ReedSets$Striped" (34 : Nat) "ReedSets$Striped" "size" "I") ∈ tb := tb_of (tb_in1 _ (List.mem_of_getElem? (i := 171) (by decide +kernel))) rfl
theorem tb_211 : (Jvm.Cond.fieldLink "ReedSets" (154 : Nat) "ReedSets$Striped" "size" "I") ∈ tb := tb_of (tb_in1 _ (List.mem_of_getElem? (i := 172) (by decide +kernel))) rfl
theorem tb_212 : (Jvm.Cond.fieldLink "ReedSets$Striped" (38 : Nat) "ReedSets$Striped" "stripes" "I") ∈ tb := tb_of (tb_in1 _ (List.mem_of_getElem? (i := 173) (by decide +kernel))) rfl
theorem tb_213 : (Jvm.Cond.fieldLink "ReedSets$Striped" (41 : Nat) "ReedSets$Striped" "sentCount" "I") ∈ tb := tb_of (tb_in1 _ (List.mem_of_getElem? (i := 174) (by decide +kernel))) rfl
theorem tb_214 : (Jvm.Cond.fieldLink "ReedSets" (173 : Nat) "ReedSets$Striped" "sentCount" "I") ∈ tb := tb_of (tb_in1 _ (List.mem_of_getElem? (i := 175) (by decide +kernel))) rfl
theorem tb_215 : (Jvm.Cond.laysFinal "ReedSets$Striped" "ReedSets$Striped" "block" "[I") ∈ tb := tb_of (tb_in1 _ (List.mem_of_getElem? (i := 176) (by decide +kernel))) rfl
theorem tb_217 : (Jvm.Cond.laysFinal "ReedSets$Striped" "ReedSets$Striped" "original" "[I") ∈ tb := tb_of (tb_in1 _ (List.mem_of_getElem? (i := 178) (by decide +kernel))) rfl
theorem tb_219 : (Jvm.Cond.laysFinal "ReedSets$Striped" "ReedSets$Striped" "lost" "[Z") ∈ tb := tb_of (tb_in1 _ (List.mem_of_getElem? (i := 180) (by decide +kernel))) rfl
theorem tb_221 : (Jvm.Cond.laysFinal "ReedSets$Striped" "ReedSets$Striped" "stripe" "LReedSets$Word;") ∈ tb := tb_of (tb_in1 _ (List.mem_of_getElem? (i := 182) (by decide +kernel))) rfl
theorem tb_223 : (Jvm.Cond.laysFinal "ReedSets$Striped" "ReedSets$Striped" "current" "[I") ∈ tb := tb_of (tb_in1 _ (List.mem_of_getElem? (i := 184) (by decide +kernel))) rfl
theorem tb_225 : (Jvm.Cond.lays "ReedSets$Striped" "ReedSets$Striped" "size" "I") ∈ tb := tb_of (tb_in1 _ (List.mem_of_getElem? (i := 186) (by decide +kernel))) rfl
theorem tb_227 : (Jvm.Cond.lays "ReedSets$Striped" "ReedSets$Striped" "stripes" "I") ∈ tb := tb_of (tb_in1 _ (List.mem_of_getElem? (i := 188) (by decide +kernel))) rfl
theorem tb_229 : (Jvm.Cond.lays "ReedSets$Striped" "ReedSets$Striped" "sentCount" "I") ∈ tb := tb_of (tb_in1 _ (List.mem_of_getElem? (i := 190) (by decide +kernel))) rfl
theorem tb_232 : (Jvm.Cond.classLink "ReedSets" (46 : Nat) "ReedSets$Sharing") ∈ tb := tb_of (tb_in1 _ (List.mem_of_getElem? (i := 193) (by decide +kernel))) rfl
theorem tb_233 : (Jvm.Cond.instantiable "ReedSets$Sharing" (10 : Nat)) ∈ tb := tb_of (tb_in1 _ (List.mem_of_getElem? (i := 194) (by decide +kernel))) rfl
theorem tb_234 : (Jvm.Cond.methodLink "ReedSets" (48 : Nat) ({ cls := "ReedSets$Sharing", name := "<init>", desc := "(LReedSets$Field;)V" } : Jvm.MethodName)) ∈ tb := tb_of (tb_in1 _ (List.mem_of_getElem? (i := 195) (by decide +kernel))) rfl
theorem tb_235 : (Jvm.Cond.instanceMethod ({ cls := "ReedSets$Sharing", name := "<init>", desc := "(LReedSets$Field;)V" } : Jvm.MethodName)) ∈ tb := tb_of (tb_in1 _ (List.mem_of_getElem? (i := 196) (by decide +kernel))) rfl
theorem tb_236 : (Jvm.Cond.code ({ cls := "ReedSets$Sharing", name := "<init>", desc := "(LReedSets$Field;)V" } : Jvm.MethodName) prog_4_method_1_code (2 : Nat) (Option.none : Option Jvm.ClassFile.FieldType)) ∈ tb := tb_of (tb_in1 _ (List.mem_of_getElem? (i := 197) (by decide +kernel))) rfl
theorem tb_237 : (Jvm.Cond.methodLink "ReedSets$Sharing" (3 : Nat) ({ cls := "java/lang/Object", name := "<init>", desc := "()V" } : Jvm.MethodName)) ∈ tb := tb_of (tb_in1 _ (List.mem_of_getElem? (i := 198) (by decide +kernel))) rfl
theorem tb_238 : (Jvm.Cond.methodLink "ReedSets$Sharing" (32 : Nat) ({ cls := "ReedSets$Sharing", name := "start", desc := "(II)V" } : Jvm.MethodName)) ∈ tb := tb_of (tb_in1 _ (List.mem_of_getElem? (i := 199) (by decide +kernel))) rfl
theorem tb_239 : (Jvm.Cond.instanceMethod ({ cls := "ReedSets$Sharing", name := "start", desc := "(II)V" } : Jvm.MethodName)) ∈ tb := tb_of (tb_in1 _ (List.mem_of_getElem? (i := 200) (by decide +kernel))) rfl
theorem tb_240 : (Jvm.Cond.selects "ReedSets$Sharing" ({ cls := "ReedSets$Sharing", name := "start", desc := "(II)V" } : Jvm.MethodName) ({ cls := "ReedSets$Sharing", name := "start", desc := "(II)V" } : Jvm.MethodName)) ∈ tb := tb_of (tb_in1 _ (List.mem_of_getElem? (i := 201) (by decide +kernel))) rfl
theorem tb_241 : (Jvm.Cond.code ({ cls := "ReedSets$Sharing", name := "start", desc := "(II)V" } : Jvm.MethodName) prog_4_method_2_code (4 : Nat) (Option.none : Option Jvm.ClassFile.FieldType)) ∈ tb := tb_of (tb_in1 _ (List.mem_of_getElem? (i := 202) (by decide +kernel))) rfl
theorem tb_242 : (Jvm.Cond.fieldLink "ReedSets$Sharing" (28 : Nat) "ReedSets$Sharing" "field" "LReedSets$Field;") ∈ tb := tb_of (tb_in1 _ (List.mem_of_getElem? (i := 203) (by decide +kernel))) rfl
theorem tb_243 : (Jvm.Cond.fieldLink "ReedSets$Sharing" (9 : Nat) "ReedSets$Sharing" "values" "[I") ∈ tb := tb_of (tb_in1 _ (List.mem_of_getElem? (i := 204) (by decide +kernel))) rfl
theorem tb_244 : (Jvm.Cond.fieldLink "ReedSets$Sharing" (15 : Nat) "ReedSets$Sharing" "base" "[I") ∈ tb := tb_of (tb_in1 _ (List.mem_of_getElem? (i := 205) (by decide +kernel))) rfl
theorem tb_245 : (Jvm.Cond.fieldLink "ReedSets$Sharing" (18 : Nat) "ReedSets$Sharing" "weights" "[I") ∈ tb := tb_of (tb_in1 _ (List.mem_of_getElem? (i := 206) (by decide +kernel))) rfl
theorem tb_246 : (Jvm.Cond.fieldLink "ReedSets$Sharing" (21 : Nat) "ReedSets$Sharing" "parts" "[I") ∈ tb := tb_of (tb_in1 _ (List.mem_of_getElem? (i := 207) (by decide +kernel))) rfl
theorem tb_247 : (Jvm.Cond.fieldLink "ReedSets$Sharing" (76 : Nat) "ReedSets$Sharing" "lastApart" "I") ∈ tb := tb_of (tb_in1 _ (List.mem_of_getElem? (i := 208) (by decide +kernel))) rfl
theorem tb_248 : (Jvm.Cond.fieldLink "ReedSets$Sharing" (36 : Nat) "ReedSets$Sharing" "needed" "I") ∈ tb := tb_of (tb_in1 _ (List.mem_of_getElem? (i := 209) (by decide +kernel))) rfl
theorem tb_249 : (Jvm.Cond.fieldLink "ReedSets$Sharing" (40 : Nat) "ReedSets$Sharing" "width" "I") ∈ tb := tb_of (tb_in1 _ (List.mem_of_getElem? (i := 210) (by decide +kernel))) rfl
theorem tb_250 : (Jvm.Cond.fieldLink "ReedSets$Sharing" (24 : Nat) "ReedSets$Sharing" "told" "[Z") ∈ tb := tb_of (tb_in1 _ (List.mem_of_getElem? (i := 211) (by decide +kernel))) rfl
theorem tb_251 : (Jvm.Cond.fieldLink "ReedSets" (197 : Nat) "ReedSets$Sharing" "told" "[Z") ∈ tb := tb_of (tb_in1 _ (List.mem_of_getElem? (i := 212) (by decide +kernel))) rfl
theorem tb_252 : (Jvm.Cond.fieldLink "ReedSets$Sharing" (43 : Nat) "ReedSets$Sharing" "count" "I") ∈ tb := tb_of (tb_in1 _ (List.mem_of_getElem? (i := 213) (by decide +kernel))) rfl
theorem tb_253 : (Jvm.Cond.fieldLink "ReedSets" (196 : Nat) "ReedSets$Sharing" "count" "I") ∈ tb := tb_of (tb_in1 _ (List.mem_of_getElem? (i := 214) (by decide +kernel))) rfl
theorem tb_254 : (Jvm.Cond.laysFinal "ReedSets$Sharing" "ReedSets$Sharing" "field" "LReedSets$Field;") ∈ tb := tb_of (tb_in1 _ (List.mem_of_getElem? (i := 215) (by decide +kernel))) rfl
theorem tb_256 : (Jvm.Cond.laysFinal "ReedSets$Sharing" "ReedSets$Sharing" "values" "[I") ∈ tb := tb_of (tb_in1 _ (List.mem_of_getElem? (i := 217) (by decide +kernel))) rfl
theorem tb_258 : (Jvm.Cond.laysFinal "ReedSets$Sharing" "ReedSets$Sharing" "base" "[I") ∈ tb := tb_of (tb_in1 _ (List.mem_of_getElem? (i := 219) (by decide +kernel))) rfl
theorem tb_260 : (Jvm.Cond.laysFinal "ReedSets$Sharing" "ReedSets$Sharing" "weights" "[I") ∈ tb := tb_of (tb_in1 _ (List.mem_of_getElem? (i := 221) (by decide +kernel))) rfl
theorem tb_262 : (Jvm.Cond.laysFinal "ReedSets$Sharing" "ReedSets$Sharing" "parts" "[I") ∈ tb := tb_of (tb_in1 _ (List.mem_of_getElem? (i := 223) (by decide +kernel))) rfl
theorem tb_264 : (Jvm.Cond.lays "ReedSets$Sharing" "ReedSets$Sharing" "lastApart" "I") ∈ tb := tb_of (tb_in1 _ (List.mem_of_getElem? (i := 225) (by decide +kernel))) rfl
theorem tb_266 : (Jvm.Cond.lays "ReedSets$Sharing" "ReedSets$Sharing" "needed" "I") ∈ tb := tb_of (tb_in1 _ (List.mem_of_getElem? (i := 227) (by decide +kernel))) rfl
theorem tb_268 : (Jvm.Cond.lays "ReedSets$Sharing" "ReedSets$Sharing" "width" "I") ∈ tb := tb_of (tb_in1 _ (List.mem_of_getElem? (i := 229) (by decide +kernel))) rfl
theorem tb_270 : (Jvm.Cond.laysFinal "ReedSets$Sharing" "ReedSets$Sharing" "told" "[Z") ∈ tb := tb_of (tb_in1 _ (List.mem_of_getElem? (i := 231) (by decide +kernel))) rfl
theorem tb_272 : (Jvm.Cond.lays "ReedSets$Sharing" "ReedSets$Sharing" "count" "I") ∈ tb := tb_of (tb_in1 _ (List.mem_of_getElem? (i := 233) (by decide +kernel))) rfl
theorem tb_275 : (Jvm.Cond.fieldLink "ReedSets" (12 : Nat) "ReedSets" "field" "LReedSets$Field;") ∈ tb := tb_of (tb_in1 _ (List.mem_of_getElem? (i := 236) (by decide +kernel))) rfl
theorem tb_276 : (Jvm.Cond.fieldLink "ReedSets" (21 : Nat) "ReedSets" "word" "LReedSets$Word;") ∈ tb := tb_of (tb_in1 _ (List.mem_of_getElem? (i := 237) (by decide +kernel))) rfl
theorem tb_277 : (Jvm.Cond.fieldLink "ReedSets" (28 : Nat) "ReedSets" "solver" "LReedSets$Solver;") ∈ tb := tb_of (tb_in1 _ (List.mem_of_getElem? (i := 238) (by decide +kernel))) rfl
theorem tb_278 : (Jvm.Cond.fieldLink "ReedSets" (35 : Nat) "ReedSets" "changes" "LReedSets$Changes;") ∈ tb := tb_of (tb_in1 _ (List.mem_of_getElem? (i := 239) (by decide +kernel))) rfl
theorem tb_279 : (Jvm.Cond.fieldLink "ReedSets" (42 : Nat) "ReedSets" "striped" "LReedSets$Striped;") ∈ tb := tb_of (tb_in2 _ (List.mem_of_getElem? (i := 0) (by decide +kernel))) rfl
theorem tb_280 : (Jvm.Cond.fieldLink "ReedSets" (49 : Nat) "ReedSets" "sharing" "LReedSets$Sharing;") ∈ tb := tb_of (tb_in2 _ (List.mem_of_getElem? (i := 1) (by decide +kernel))) rfl
theorem tb_281 : (Jvm.Cond.laysFinal "ReedSets" "ReedSets" "field" "LReedSets$Field;") ∈ tb := tb_of (tb_in2 _ (List.mem_of_getElem? (i := 2) (by decide +kernel))) rfl
theorem tb_283 : (Jvm.Cond.laysFinal "ReedSets" "ReedSets" "word" "LReedSets$Word;") ∈ tb := tb_of (tb_in2 _ (List.mem_of_getElem? (i := 4) (by decide +kernel))) rfl
theorem tb_285 : (Jvm.Cond.laysFinal "ReedSets" "ReedSets" "solver" "LReedSets$Solver;") ∈ tb := tb_of (tb_in2 _ (List.mem_of_getElem? (i := 6) (by decide +kernel))) rfl
theorem tb_287 : (Jvm.Cond.laysFinal "ReedSets" "ReedSets" "changes" "LReedSets$Changes;") ∈ tb := tb_of (tb_in2 _ (List.mem_of_getElem? (i := 8) (by decide +kernel))) rfl
theorem tb_289 : (Jvm.Cond.laysFinal "ReedSets" "ReedSets" "striped" "LReedSets$Striped;") ∈ tb := tb_of (tb_in2 _ (List.mem_of_getElem? (i := 10) (by decide +kernel))) rfl
theorem tb_291 : (Jvm.Cond.laysFinal "ReedSets" "ReedSets" "sharing" "LReedSets$Sharing;") ∈ tb := tb_of (tb_in2 _ (List.mem_of_getElem? (i := 12) (by decide +kernel))) rfl
theorem tb_294 : (Jvm.Cond.methodLink "ReedSetsLaw" (13 : Nat) ({ cls := "ReedSets", name := "times", desc := "(II)I" } : Jvm.MethodName)) ∈ tb := tb_of (tb_in2 _ (List.mem_of_getElem? (i := 15) (by decide +kernel))) rfl
theorem tb_295 : (Jvm.Cond.instanceMethod ({ cls := "ReedSets", name := "times", desc := "(II)I" } : Jvm.MethodName)) ∈ tb := tb_of (tb_in2 _ (List.mem_of_getElem? (i := 16) (by decide +kernel))) rfl
theorem tb_296 : (Jvm.Cond.selects "ReedSets" ({ cls := "ReedSets", name := "times", desc := "(II)I" } : Jvm.MethodName) ({ cls := "ReedSets", name := "times", desc := "(II)I" } : Jvm.MethodName)) ∈ tb := tb_of (tb_in2 _ (List.mem_of_getElem? (i := 17) (by decide +kernel))) rfl
theorem tb_297 : (Jvm.Cond.code ({ cls := "ReedSets", name := "times", desc := "(II)I" } : Jvm.MethodName) prog_1_method_2_code (3 : Nat) (Option.some Jvm.ClassFile.FieldType.int)) ∈ tb := tb_of (tb_in2 _ (List.mem_of_getElem? (i := 18) (by decide +kernel))) rfl
theorem tb_298 : (Jvm.Cond.methodLink "ReedSets" (53 : Nat) ({ cls := "ReedSets$Field", name := "isByte", desc := "(I)Z" } : Jvm.MethodName)) ∈ tb := tb_of (tb_in2 _ (List.mem_of_getElem? (i := 19) (by decide +kernel))) rfl
theorem tb_299 : (Jvm.Cond.static ({ cls := "ReedSets$Field", name := "isByte", desc := "(I)Z" } : Jvm.MethodName)) ∈ tb := tb_of (tb_in2 _ (List.mem_of_getElem? (i := 20) (by decide +kernel))) rfl
theorem tb_300 : (Jvm.Cond.code ({ cls := "ReedSets$Field", name := "isByte", desc := "(I)Z" } : Jvm.MethodName) prog_3_method_2_code (1 : Nat) (Option.some Jvm.ClassFile.FieldType.boolean)) ∈ tb := tb_of (tb_in2 _ (List.mem_of_getElem? (i := 21) (by decide +kernel))) rfl
theorem tb_301 : (Jvm.Cond.methodLink "ReedSets" (57 : Nat) ({ cls := "ReedSets$Field", name := "product", desc := "(II)I" } : Jvm.MethodName)) ∈ tb := tb_of (tb_in2 _ (List.mem_of_getElem? (i := 22) (by decide +kernel))) rfl
theorem tb_302 : (Jvm.Cond.methodLink "ReedSetsLaw" (18 : Nat) ({ cls := "ReedSets", name := "over", desc := "(II)I" } : Jvm.MethodName)) ∈ tb := tb_of (tb_in2 _ (List.mem_of_getElem? (i := 23) (by decide +kernel))) rfl
theorem tb_303 : (Jvm.Cond.instanceMethod ({ cls := "ReedSets", name := "over", desc := "(II)I" } : Jvm.MethodName)) ∈ tb := tb_of (tb_in2 _ (List.mem_of_getElem? (i := 24) (by decide +kernel))) rfl
theorem tb_304 : (Jvm.Cond.selects "ReedSets" ({ cls := "ReedSets", name := "over", desc := "(II)I" } : Jvm.MethodName) ({ cls := "ReedSets", name := "over", desc := "(II)I" } : Jvm.MethodName)) ∈ tb := tb_of (tb_in2 _ (List.mem_of_getElem? (i := 25) (by decide +kernel))) rfl
theorem tb_305 : (Jvm.Cond.code ({ cls := "ReedSets", name := "over", desc := "(II)I" } : Jvm.MethodName) prog_1_method_3_code (3 : Nat) (Option.some Jvm.ClassFile.FieldType.int)) ∈ tb := tb_of (tb_in2 _ (List.mem_of_getElem? (i := 26) (by decide +kernel))) rfl
theorem tb_306 : (Jvm.Cond.methodLink "ReedSets" (61 : Nat) ({ cls := "ReedSets$Field", name := "quotient", desc := "(II)I" } : Jvm.MethodName)) ∈ tb := tb_of (tb_in2 _ (List.mem_of_getElem? (i := 27) (by decide +kernel))) rfl
theorem tb_307 : (Jvm.Cond.instanceMethod ({ cls := "ReedSets$Field", name := "quotient", desc := "(II)I" } : Jvm.MethodName)) ∈ tb := tb_of (tb_in2 _ (List.mem_of_getElem? (i := 28) (by decide +kernel))) rfl
theorem tb_308 : (Jvm.Cond.selects "ReedSets$Field" ({ cls := "ReedSets$Field", name := "quotient", desc := "(II)I" } : Jvm.MethodName) ({ cls := "ReedSets$Field", name := "quotient", desc := "(II)I" } : Jvm.MethodName)) ∈ tb := tb_of (tb_in2 _ (List.mem_of_getElem? (i := 29) (by decide +kernel))) rfl
theorem tb_309 : (Jvm.Cond.code ({ cls := "ReedSets$Field", name := "quotient", desc := "(II)I" } : Jvm.MethodName) prog_3_method_4_code (3 : Nat) (Option.some Jvm.ClassFile.FieldType.int)) ∈ tb := tb_of (tb_in2 _ (List.mem_of_getElem? (i := 30) (by decide +kernel))) rfl
theorem tb_310 : (Jvm.Cond.methodLink "ReedSetsLaw" (22 : Nat) ({ cls := "ReedSets", name := "power", desc := "(II)I" } : Jvm.MethodName)) ∈ tb := tb_of (tb_in2 _ (List.mem_of_getElem? (i := 31) (by decide +kernel))) rfl
theorem tb_311 : (Jvm.Cond.instanceMethod ({ cls := "ReedSets", name := "power", desc := "(II)I" } : Jvm.MethodName)) ∈ tb := tb_of (tb_in2 _ (List.mem_of_getElem? (i := 32) (by decide +kernel))) rfl
theorem tb_312 : (Jvm.Cond.selects "ReedSets" ({ cls := "ReedSets", name := "power", desc := "(II)I" } : Jvm.MethodName) ({ cls := "ReedSets", name := "power", desc := "(II)I" } : Jvm.MethodName)) ∈ tb := tb_of (tb_in2 _ (List.mem_of_getElem? (i := 33) (by decide +kernel))) rfl
theorem tb_313 : (Jvm.Cond.code ({ cls := "ReedSets", name := "power", desc := "(II)I" } : Jvm.MethodName) prog_1_method_4_code (3 : Nat) (Option.some Jvm.ClassFile.FieldType.int)) ∈ tb := tb_of (tb_in2 _ (List.mem_of_getElem? (i := 34) (by decide +kernel))) rfl
theorem tb_314 : (Jvm.Cond.methodLink "ReedSets" (64 : Nat) ({ cls := "ReedSets$Field", name := "raised", desc := "(II)I" } : Jvm.MethodName)) ∈ tb := tb_of (tb_in2 _ (List.mem_of_getElem? (i := 35) (by decide +kernel))) rfl
theorem tb_315 : (Jvm.Cond.instanceMethod ({ cls := "ReedSets$Field", name := "raised", desc := "(II)I" } : Jvm.MethodName)) ∈ tb := tb_of (tb_in2 _ (List.mem_of_getElem? (i := 36) (by decide +kernel))) rfl
theorem tb_316 : (Jvm.Cond.selects "ReedSets$Field" ({ cls := "ReedSets$Field", name := "raised", desc := "(II)I" } : Jvm.MethodName) ({ cls := "ReedSets$Field", name := "raised", desc := "(II)I" } : Jvm.MethodName)) ∈ tb := tb_of (tb_in2 _ (List.mem_of_getElem? (i := 37) (by decide +kernel))) rfl
theorem tb_317 : (Jvm.Cond.code ({ cls := "ReedSets$Field", name := "raised", desc := "(II)I" } : Jvm.MethodName) prog_3_method_5_code (3 : Nat) (Option.some Jvm.ClassFile.FieldType.int)) ∈ tb := tb_of (tb_in2 _ (List.mem_of_getElem? (i := 38) (by decide +kernel))) rfl
theorem tb_318 : (Jvm.Cond.methodLink "ReedSets$Field" (18 : Nat) ({ cls := "java/lang/Math", name := "floorMod", desc := "(II)I" } : Jvm.MethodName)) ∈ tb := tb_of (tb_in2 _ (List.mem_of_getElem? (i := 39) (by decide +kernel))) rfl
theorem tb_319 : (Jvm.Cond.static ({ cls := "java/lang/Math", name := "floorMod", desc := "(II)I" } : Jvm.MethodName)) ∈ tb := tb_of (tb_in2 _ (List.mem_of_getElem? (i := 40) (by decide +kernel))) rfl
theorem tb_320 : (Jvm.Cond.code ({ cls := "java/lang/Math", name := "floorMod", desc := "(II)I" } : Jvm.MethodName) prog_10_method_50_code (3 : Nat) (Option.some Jvm.ClassFile.FieldType.int)) ∈ tb := tb_of (tb_in2 _ (List.mem_of_getElem? (i := 41) (by decide +kernel))) rfl
theorem tb_321 : (Jvm.Cond.methodLink "ReedSets$Field" (24 : Nat) ({ cls := "ReedSets$Field", name := "powerOfTwo", desc := "(I)I" } : Jvm.MethodName)) ∈ tb := tb_of (tb_in2 _ (List.mem_of_getElem? (i := 42) (by decide +kernel))) rfl
theorem tb_322 : (Jvm.Cond.methodLink "ReedSetsLaw" (26 : Nat) ({ cls := "ReedSets", name := "log", desc := "(I)I" } : Jvm.MethodName)) ∈ tb := tb_of (tb_in2 _ (List.mem_of_getElem? (i := 43) (by decide +kernel))) rfl
theorem tb_323 : (Jvm.Cond.instanceMethod ({ cls := "ReedSets", name := "log", desc := "(I)I" } : Jvm.MethodName)) ∈ tb := tb_of (tb_in2 _ (List.mem_of_getElem? (i := 44) (by decide +kernel))) rfl
theorem tb_324 : (Jvm.Cond.selects "ReedSets" ({ cls := "ReedSets", name := "log", desc := "(I)I" } : Jvm.MethodName) ({ cls := "ReedSets", name := "log", desc := "(I)I" } : Jvm.MethodName)) ∈ tb := tb_of (tb_in2 _ (List.mem_of_getElem? (i := 45) (by decide +kernel))) rfl
theorem tb_325 : (Jvm.Cond.code ({ cls := "ReedSets", name := "log", desc := "(I)I" } : Jvm.MethodName) prog_1_method_5_code (2 : Nat) (Option.some Jvm.ClassFile.FieldType.int)) ∈ tb := tb_of (tb_in2 _ (List.mem_of_getElem? (i := 46) (by decide +kernel))) rfl
theorem tb_326 : (Jvm.Cond.methodLink "ReedSets" (67 : Nat) ({ cls := "ReedSets$Field", name := "logOf", desc := "(I)I" } : Jvm.MethodName)) ∈ tb := tb_of (tb_in2 _ (List.mem_of_getElem? (i := 47) (by decide +kernel))) rfl
theorem tb_327 : (Jvm.Cond.instanceMethod ({ cls := "ReedSets$Field", name := "logOf", desc := "(I)I" } : Jvm.MethodName)) ∈ tb := tb_of (tb_in2 _ (List.mem_of_getElem? (i := 48) (by decide +kernel))) rfl
theorem tb_328 : (Jvm.Cond.selects "ReedSets$Field" ({ cls := "ReedSets$Field", name := "logOf", desc := "(I)I" } : Jvm.MethodName) ({ cls := "ReedSets$Field", name := "logOf", desc := "(I)I" } : Jvm.MethodName)) ∈ tb := tb_of (tb_in2 _ (List.mem_of_getElem? (i := 49) (by decide +kernel))) rfl
theorem tb_329 : (Jvm.Cond.code ({ cls := "ReedSets$Field", name := "logOf", desc := "(I)I" } : Jvm.MethodName) prog_3_method_7_code (2 : Nat) (Option.some Jvm.ClassFile.FieldType.int)) ∈ tb := tb_of (tb_in2 _ (List.mem_of_getElem? (i := 50) (by decide +kernel))) rfl
theorem tb_330 : (Jvm.Cond.methodLink "ReedSetsLaw" (31 : Nat) ({ cls := "ReedSets", name := "code", desc := "(III)I" } : Jvm.MethodName)) ∈ tb := tb_of (tb_in2 _ (List.mem_of_getElem? (i := 51) (by decide +kernel))) rfl
theorem tb_331 : (Jvm.Cond.instanceMethod ({ cls := "ReedSets", name := "code", desc := "(III)I" } : Jvm.MethodName)) ∈ tb := tb_of (tb_in2 _ (List.mem_of_getElem? (i := 52) (by decide +kernel))) rfl
theorem tb_332 : (Jvm.Cond.selects "ReedSets" ({ cls := "ReedSets", name := "code", desc := "(III)I" } : Jvm.MethodName) ({ cls := "ReedSets", name := "code", desc := "(III)I" } : Jvm.MethodName)) ∈ tb := tb_of (tb_in2 _ (List.mem_of_getElem? (i := 53) (by decide +kernel))) rfl
theorem tb_333 : (Jvm.Cond.code ({ cls := "ReedSets", name := "code", desc := "(III)I" } : Jvm.MethodName) prog_1_method_6_code (4 : Nat) (Option.some Jvm.ClassFile.FieldType.int)) ∈ tb := tb_of (tb_in2 _ (List.mem_of_getElem? (i := 54) (by decide +kernel))) rfl
theorem tb_334 : (Jvm.Cond.methodLink "ReedSets" (71 : Nat) ({ cls := "ReedSets$Word", name := "shape", desc := "(III)V" } : Jvm.MethodName)) ∈ tb := tb_of (tb_in2 _ (List.mem_of_getElem? (i := 55) (by decide +kernel))) rfl
theorem tb_335 : (Jvm.Cond.methodLink "ReedSets" (75 : Nat) ({ cls := "ReedSets$Word", name := "size", desc := "()I" } : Jvm.MethodName)) ∈ tb := tb_of (tb_in2 _ (List.mem_of_getElem? (i := 56) (by decide +kernel))) rfl
theorem tb_336 : (Jvm.Cond.instanceMethod ({ cls := "ReedSets$Word", name := "size", desc := "()I" } : Jvm.MethodName)) ∈ tb := tb_of (tb_in2 _ (List.mem_of_getElem? (i := 57) (by decide +kernel))) rfl
theorem tb_337 : (Jvm.Cond.selects "ReedSets$Word" ({ cls := "ReedSets$Word", name := "size", desc := "()I" } : Jvm.MethodName) ({ cls := "ReedSets$Word", name := "size", desc := "()I" } : Jvm.MethodName)) ∈ tb := tb_of (tb_in2 _ (List.mem_of_getElem? (i := 58) (by decide +kernel))) rfl
theorem tb_338 : (Jvm.Cond.code ({ cls := "ReedSets$Word", name := "size", desc := "()I" } : Jvm.MethodName) prog_7_method_4_code (1 : Nat) (Option.some Jvm.ClassFile.FieldType.int)) ∈ tb := tb_of (tb_in2 _ (List.mem_of_getElem? (i := 59) (by decide +kernel))) rfl
theorem tb_339 : (Jvm.Cond.methodLink "ReedSetsLaw" (36 : Nat) ({ cls := "ReedSets", name := "generator", desc := "(I)I" } : Jvm.MethodName)) ∈ tb := tb_of (tb_in2 _ (List.mem_of_getElem? (i := 60) (by decide +kernel))) rfl
theorem tb_340 : (Jvm.Cond.instanceMethod ({ cls := "ReedSets", name := "generator", desc := "(I)I" } : Jvm.MethodName)) ∈ tb := tb_of (tb_in2 _ (List.mem_of_getElem? (i := 61) (by decide +kernel))) rfl
theorem tb_341 : (Jvm.Cond.selects "ReedSets" ({ cls := "ReedSets", name := "generator", desc := "(I)I" } : Jvm.MethodName) ({ cls := "ReedSets", name := "generator", desc := "(I)I" } : Jvm.MethodName)) ∈ tb := tb_of (tb_in2 _ (List.mem_of_getElem? (i := 62) (by decide +kernel))) rfl
theorem tb_342 : (Jvm.Cond.code ({ cls := "ReedSets", name := "generator", desc := "(I)I" } : Jvm.MethodName) prog_1_method_7_code (2 : Nat) (Option.some Jvm.ClassFile.FieldType.int)) ∈ tb := tb_of (tb_in2 _ (List.mem_of_getElem? (i := 63) (by decide +kernel))) rfl
theorem tb_343 : (Jvm.Cond.methodLink "ReedSetsLaw" (40 : Nat) ({ cls := "ReedSets", name := "put", desc := "(II)I" } : Jvm.MethodName)) ∈ tb := tb_of (tb_in2 _ (List.mem_of_getElem? (i := 64) (by decide +kernel))) rfl
theorem tb_344 : (Jvm.Cond.instanceMethod ({ cls := "ReedSets", name := "put", desc := "(II)I" } : Jvm.MethodName)) ∈ tb := tb_of (tb_in2 _ (List.mem_of_getElem? (i := 65) (by decide +kernel))) rfl
theorem tb_345 : (Jvm.Cond.selects "ReedSets" ({ cls := "ReedSets", name := "put", desc := "(II)I" } : Jvm.MethodName) ({ cls := "ReedSets", name := "put", desc := "(II)I" } : Jvm.MethodName)) ∈ tb := tb_of (tb_in2 _ (List.mem_of_getElem? (i := 66) (by decide +kernel))) rfl
theorem tb_346 : (Jvm.Cond.code ({ cls := "ReedSets", name := "put", desc := "(II)I" } : Jvm.MethodName) prog_1_method_8_code (4 : Nat) (Option.some Jvm.ClassFile.FieldType.int)) ∈ tb := tb_of (tb_in2 _ (List.mem_of_getElem? (i := 67) (by decide +kernel))) rfl
theorem tb_347 : (Jvm.Cond.methodLink "ReedSets" (87 : Nat) ({ cls := "ReedSets$Word", name := "hasPlace", desc := "(I)Z" } : Jvm.MethodName)) ∈ tb := tb_of (tb_in2 _ (List.mem_of_getElem? (i := 68) (by decide +kernel))) rfl
theorem tb_348 : (Jvm.Cond.instanceMethod ({ cls := "ReedSets$Word", name := "hasPlace", desc := "(I)Z" } : Jvm.MethodName)) ∈ tb := tb_of (tb_in2 _ (List.mem_of_getElem? (i := 69) (by decide +kernel))) rfl
theorem tb_349 : (Jvm.Cond.selects "ReedSets$Word" ({ cls := "ReedSets$Word", name := "hasPlace", desc := "(I)Z" } : Jvm.MethodName) ({ cls := "ReedSets$Word", name := "hasPlace", desc := "(I)Z" } : Jvm.MethodName)) ∈ tb := tb_of (tb_in2 _ (List.mem_of_getElem? (i := 70) (by decide +kernel))) rfl
theorem tb_350 : (Jvm.Cond.code ({ cls := "ReedSets$Word", name := "hasPlace", desc := "(I)Z" } : Jvm.MethodName) prog_7_method_5_code (2 : Nat) (Option.some Jvm.ClassFile.FieldType.boolean)) ∈ tb := tb_of (tb_in2 _ (List.mem_of_getElem? (i := 71) (by decide +kernel))) rfl
theorem tb_351 : (Jvm.Cond.methodLink "ReedSets$Word" (62 : Nat) ({ cls := "ReedSets$Word", name := "size", desc := "()I" } : Jvm.MethodName)) ∈ tb := tb_of (tb_in2 _ (List.mem_of_getElem? (i := 72) (by decide +kernel))) rfl
theorem tb_352 : (Jvm.Cond.methodLink "ReedSetsLaw" (44 : Nat) ({ cls := "ReedSets", name := "encode", desc := "()I" } : Jvm.MethodName)) ∈ tb := tb_of (tb_in2 _ (List.mem_of_getElem? (i := 73) (by decide +kernel))) rfl
theorem tb_353 : (Jvm.Cond.instanceMethod ({ cls := "ReedSets", name := "encode", desc := "()I" } : Jvm.MethodName)) ∈ tb := tb_of (tb_in2 _ (List.mem_of_getElem? (i := 74) (by decide +kernel))) rfl
theorem tb_354 : (Jvm.Cond.selects "ReedSets" ({ cls := "ReedSets", name := "encode", desc := "()I" } : Jvm.MethodName) ({ cls := "ReedSets", name := "encode", desc := "()I" } : Jvm.MethodName)) ∈ tb := tb_of (tb_in2 _ (List.mem_of_getElem? (i := 75) (by decide +kernel))) rfl
theorem tb_355 : (Jvm.Cond.code ({ cls := "ReedSets", name := "encode", desc := "()I" } : Jvm.MethodName) prog_1_method_9_code (1 : Nat) (Option.some Jvm.ClassFile.FieldType.int)) ∈ tb := tb_of (tb_in2 _ (List.mem_of_getElem? (i := 76) (by decide +kernel))) rfl
theorem tb_356 : (Jvm.Cond.methodLink "ReedSets" (93 : Nat) ({ cls := "ReedSets$Word", name := "hasLostData", desc := "()Z" } : Jvm.MethodName)) ∈ tb := tb_of (tb_in2 _ (List.mem_of_getElem? (i := 77) (by decide +kernel))) rfl
theorem tb_357 : (Jvm.Cond.instanceMethod ({ cls := "ReedSets$Word", name := "hasLostData", desc := "()Z" } : Jvm.MethodName)) ∈ tb := tb_of (tb_in2 _ (List.mem_of_getElem? (i := 78) (by decide +kernel))) rfl
theorem tb_358 : (Jvm.Cond.selects "ReedSets$Word" ({ cls := "ReedSets$Word", name := "hasLostData", desc := "()Z" } : Jvm.MethodName) ({ cls := "ReedSets$Word", name := "hasLostData", desc := "()Z" } : Jvm.MethodName)) ∈ tb := tb_of (tb_in2 _ (List.mem_of_getElem? (i := 79) (by decide +kernel))) rfl
theorem tb_359 : (Jvm.Cond.code ({ cls := "ReedSets$Word", name := "hasLostData", desc := "()Z" } : Jvm.MethodName) prog_7_method_7_code (2 : Nat) (Option.some Jvm.ClassFile.FieldType.boolean)) ∈ tb := tb_of (tb_in2 _ (List.mem_of_getElem? (i := 80) (by decide +kernel))) rfl
theorem tb_360 : (Jvm.Cond.methodLink "ReedSets" (97 : Nat) ({ cls := "ReedSets$Word", name := "fillRepairs", desc := "()V" } : Jvm.MethodName)) ∈ tb := tb_of (tb_in2 _ (List.mem_of_getElem? (i := 81) (by decide +kernel))) rfl
theorem tb_361 : (Jvm.Cond.instanceMethod ({ cls := "ReedSets$Word", name := "fillRepairs", desc := "()V" } : Jvm.MethodName)) ∈ tb := tb_of (tb_in2 _ (List.mem_of_getElem? (i := 82) (by decide +kernel))) rfl
theorem tb_362 : (Jvm.Cond.selects "ReedSets$Word" ({ cls := "ReedSets$Word", name := "fillRepairs", desc := "()V" } : Jvm.MethodName) ({ cls := "ReedSets$Word", name := "fillRepairs", desc := "()V" } : Jvm.MethodName)) ∈ tb := tb_of (tb_in2 _ (List.mem_of_getElem? (i := 83) (by decide +kernel))) rfl
theorem tb_363 : (Jvm.Cond.code ({ cls := "ReedSets$Word", name := "fillRepairs", desc := "()V" } : Jvm.MethodName) prog_7_method_9_code (5 : Nat) (Option.none : Option Jvm.ClassFile.FieldType)) ∈ tb := tb_of (tb_in2 _ (List.mem_of_getElem? (i := 84) (by decide +kernel))) rfl
theorem tb_364 : (Jvm.Cond.methodLink "ReedSets$Word" (69 : Nat) ({ cls := "java/util/Arrays", name := "fill", desc := "([IIII)V" } : Jvm.MethodName)) ∈ tb := tb_of (tb_in2 _ (List.mem_of_getElem? (i := 85) (by decide +kernel))) rfl
theorem tb_365 : (Jvm.Cond.static ({ cls := "java/util/Arrays", name := "fill", desc := "([IIII)V" } : Jvm.MethodName)) ∈ tb := tb_of (tb_in2 _ (List.mem_of_getElem? (i := 86) (by decide +kernel))) rfl
theorem tb_366 : (Jvm.Cond.code ({ cls := "java/util/Arrays", name := "fill", desc := "([IIII)V" } : Jvm.MethodName) prog_12_method_104_code (5 : Nat) (Option.none : Option Jvm.ClassFile.FieldType)) ∈ tb := tb_of (tb_in2 _ (List.mem_of_getElem? (i := 87) (by decide +kernel))) rfl
theorem tb_367 : (Jvm.Cond.methodLink "java/util/Arrays" (13 : Nat) ({ cls := "java/util/Arrays", name := "rangeCheck", desc := "(III)V" } : Jvm.MethodName)) ∈ tb := tb_of (tb_in2 _ (List.mem_of_getElem? (i := 88) (by decide +kernel))) rfl
theorem tb_368 : (Jvm.Cond.static ({ cls := "java/util/Arrays", name := "rangeCheck", desc := "(III)V" } : Jvm.MethodName)) ∈ tb := tb_of (tb_in2 _ (List.mem_of_getElem? (i := 89) (by decide +kernel))) rfl
theorem tb_369 : (Jvm.Cond.code ({ cls := "java/util/Arrays", name := "rangeCheck", desc := "(III)V" } : Jvm.MethodName) prog_12_method_30_code (3 : Nat) (Option.none : Option Jvm.ClassFile.FieldType)) ∈ tb := tb_of (tb_in2 _ (List.mem_of_getElem? (i := 90) (by decide +kernel))) rfl
theorem tb_370 : (Jvm.Cond.methodLink "ReedSets" (100 : Nat) ({ cls := "ReedSets$Word", name := "findAll", desc := "()V" } : Jvm.MethodName)) ∈ tb := tb_of (tb_in2 _ (List.mem_of_getElem? (i := 91) (by decide +kernel))) rfl
theorem tb_371 : (Jvm.Cond.methodLink "ReedSetsLaw" (49 : Nat) ({ cls := "ReedSets", name := "at", desc := "(I)I" } : Jvm.MethodName)) ∈ tb := tb_of (tb_in2 _ (List.mem_of_getElem? (i := 92) (by decide +kernel))) rfl
theorem tb_372 : (Jvm.Cond.instanceMethod ({ cls := "ReedSets", name := "at", desc := "(I)I" } : Jvm.MethodName)) ∈ tb := tb_of (tb_in2 _ (List.mem_of_getElem? (i := 93) (by decide +kernel))) rfl
theorem tb_373 : (Jvm.Cond.selects "ReedSets" ({ cls := "ReedSets", name := "at", desc := "(I)I" } : Jvm.MethodName) ({ cls := "ReedSets", name := "at", desc := "(I)I" } : Jvm.MethodName)) ∈ tb := tb_of (tb_in2 _ (List.mem_of_getElem? (i := 94) (by decide +kernel))) rfl
theorem tb_374 : (Jvm.Cond.code ({ cls := "ReedSets", name := "at", desc := "(I)I" } : Jvm.MethodName) prog_1_method_10_code (2 : Nat) (Option.some Jvm.ClassFile.FieldType.int)) ∈ tb := tb_of (tb_in2 _ (List.mem_of_getElem? (i := 95) (by decide +kernel))) rfl
theorem tb_375 : (Jvm.Cond.methodLink "ReedSetsLaw" (53 : Nat) ({ cls := "ReedSets", name := "lose", desc := "(I)I" } : Jvm.MethodName)) ∈ tb := tb_of (tb_in2 _ (List.mem_of_getElem? (i := 96) (by decide +kernel))) rfl
theorem tb_376 : (Jvm.Cond.instanceMethod ({ cls := "ReedSets", name := "lose", desc := "(I)I" } : Jvm.MethodName)) ∈ tb := tb_of (tb_in2 _ (List.mem_of_getElem? (i := 97) (by decide +kernel))) rfl
theorem tb_377 : (Jvm.Cond.selects "ReedSets" ({ cls := "ReedSets", name := "lose", desc := "(I)I" } : Jvm.MethodName) ({ cls := "ReedSets", name := "lose", desc := "(I)I" } : Jvm.MethodName)) ∈ tb := tb_of (tb_in2 _ (List.mem_of_getElem? (i := 98) (by decide +kernel))) rfl
theorem tb_378 : (Jvm.Cond.code ({ cls := "ReedSets", name := "lose", desc := "(I)I" } : Jvm.MethodName) prog_1_method_11_code (2 : Nat) (Option.some Jvm.ClassFile.FieldType.int)) ∈ tb := tb_of (tb_in2 _ (List.mem_of_getElem? (i := 99) (by decide +kernel))) rfl
theorem tb_379 : (Jvm.Cond.methodLink "ReedSetsLaw" (57 : Nat) ({ cls := "ReedSets", name := "syndrome", desc := "(I)I" } : Jvm.MethodName)) ∈ tb := tb_of (tb_in2 _ (List.mem_of_getElem? (i := 100) (by decide +kernel))) rfl
theorem tb_380 : (Jvm.Cond.instanceMethod ({ cls := "ReedSets", name := "syndrome", desc := "(I)I" } : Jvm.MethodName)) ∈ tb := tb_of (tb_in2 _ (List.mem_of_getElem? (i := 101) (by decide +kernel))) rfl
theorem tb_381 : (Jvm.Cond.selects "ReedSets" ({ cls := "ReedSets", name := "syndrome", desc := "(I)I" } : Jvm.MethodName) ({ cls := "ReedSets", name := "syndrome", desc := "(I)I" } : Jvm.MethodName)) ∈ tb := tb_of (tb_in2 _ (List.mem_of_getElem? (i := 102) (by decide +kernel))) rfl
theorem tb_382 : (Jvm.Cond.code ({ cls := "ReedSets", name := "syndrome", desc := "(I)I" } : Jvm.MethodName) prog_1_method_12_code (2 : Nat) (Option.some Jvm.ClassFile.FieldType.int)) ∈ tb := tb_of (tb_in2 _ (List.mem_of_getElem? (i := 103) (by decide +kernel))) rfl
theorem tb_383 : (Jvm.Cond.methodLink "ReedSets" (113 : Nat) ({ cls := "ReedSets$Word", name := "valueFor", desc := "(I)I" } : Jvm.MethodName)) ∈ tb := tb_of (tb_in2 _ (List.mem_of_getElem? (i := 104) (by decide +kernel))) rfl
theorem tb_384 : (Jvm.Cond.instanceMethod ({ cls := "ReedSets$Word", name := "valueFor", desc := "(I)I" } : Jvm.MethodName)) ∈ tb := tb_of (tb_in2 _ (List.mem_of_getElem? (i := 105) (by decide +kernel))) rfl
theorem tb_385 : (Jvm.Cond.selects "ReedSets$Word" ({ cls := "ReedSets$Word", name := "valueFor", desc := "(I)I" } : Jvm.MethodName) ({ cls := "ReedSets$Word", name := "valueFor", desc := "(I)I" } : Jvm.MethodName)) ∈ tb := tb_of (tb_in2 _ (List.mem_of_getElem? (i := 106) (by decide +kernel))) rfl
theorem tb_386 : (Jvm.Cond.code ({ cls := "ReedSets$Word", name := "valueFor", desc := "(I)I" } : Jvm.MethodName) prog_7_method_10_code (5 : Nat) (Option.some Jvm.ClassFile.FieldType.int)) ∈ tb := tb_of (tb_in2 _ (List.mem_of_getElem? (i := 107) (by decide +kernel))) rfl
theorem tb_387 : (Jvm.Cond.methodLink "ReedSetsLaw" (61 : Nat) ({ cls := "ReedSets", name := "repair", desc := "()I" } : Jvm.MethodName)) ∈ tb := tb_of (tb_in2 _ (List.mem_of_getElem? (i := 108) (by decide +kernel))) rfl
theorem tb_388 : (Jvm.Cond.instanceMethod ({ cls := "ReedSets", name := "repair", desc := "()I" } : Jvm.MethodName)) ∈ tb := tb_of (tb_in2 _ (List.mem_of_getElem? (i := 109) (by decide +kernel))) rfl
theorem tb_389 : (Jvm.Cond.selects "ReedSets" ({ cls := "ReedSets", name := "repair", desc := "()I" } : Jvm.MethodName) ({ cls := "ReedSets", name := "repair", desc := "()I" } : Jvm.MethodName)) ∈ tb := tb_of (tb_in2 _ (List.mem_of_getElem? (i := 110) (by decide +kernel))) rfl
theorem tb_390 : (Jvm.Cond.code ({ cls := "ReedSets", name := "repair", desc := "()I" } : Jvm.MethodName) prog_1_method_13_code (4 : Nat) (Option.some Jvm.ClassFile.FieldType.int)) ∈ tb := tb_of (tb_in2 _ (List.mem_of_getElem? (i := 111) (by decide +kernel))) rfl
theorem tb_391 : (Jvm.Cond.methodLink "ReedSets" (116 : Nat) ({ cls := "ReedSets$Solver", name := "solve", desc := "(LReedSets$Word;)I" } : Jvm.MethodName)) ∈ tb := tb_of (tb_in2 _ (List.mem_of_getElem? (i := 112) (by decide +kernel))) rfl
theorem tb_392 : (Jvm.Cond.instanceMethod ({ cls := "ReedSets$Solver", name := "solve", desc := "(LReedSets$Word;)I" } : Jvm.MethodName)) ∈ tb := tb_of (tb_in2 _ (List.mem_of_getElem? (i := 113) (by decide +kernel))) rfl
theorem tb_393 : (Jvm.Cond.selects "ReedSets$Solver" ({ cls := "ReedSets$Solver", name := "solve", desc := "(LReedSets$Word;)I" } : Jvm.MethodName) ({ cls := "ReedSets$Solver", name := "solve", desc := "(LReedSets$Word;)I" } : Jvm.MethodName)) ∈ tb := tb_of (tb_in2 _ (List.mem_of_getElem? (i := 114) (by decide +kernel))) rfl
theorem tb_394 : (Jvm.Cond.code ({ cls := "ReedSets$Solver", name := "solve", desc := "(LReedSets$Word;)I" } : Jvm.MethodName) prog_5_method_2_code (3 : Nat) (Option.some Jvm.ClassFile.FieldType.int)) ∈ tb := tb_of (tb_in2 _ (List.mem_of_getElem? (i := 115) (by decide +kernel))) rfl
theorem tb_395 : (Jvm.Cond.methodLink "ReedSets$Solver" (49 : Nat) ({ cls := "ReedSets$Solver", name := "readSyndromes", desc := "(LReedSets$Word;)V" } : Jvm.MethodName)) ∈ tb := tb_of (tb_in2 _ (List.mem_of_getElem? (i := 116) (by decide +kernel))) rfl
theorem tb_397 : (Jvm.Cond.instanceMethod ({ cls := "ReedSets$Solver", name := "readSyndromes", desc := "(LReedSets$Word;)V" } : Jvm.MethodName)) ∈ tb := tb_of (tb_in2 _ (List.mem_of_getElem? (i := 118) (by decide +kernel))) rfl
theorem tb_398 : (Jvm.Cond.code ({ cls := "ReedSets$Solver", name := "readSyndromes", desc := "(LReedSets$Word;)V" } : Jvm.MethodName) prog_5_method_3_code (3 : Nat) (Option.none : Option Jvm.ClassFile.FieldType)) ∈ tb := tb_of (tb_in2 _ (List.mem_of_getElem? (i := 119) (by decide +kernel))) rfl
theorem tb_399 : (Jvm.Cond.methodLink "ReedSets$Solver" (78 : Nat) ({ cls := "ReedSets$Word", name := "valueFor", desc := "(I)I" } : Jvm.MethodName)) ∈ tb := tb_of (tb_in2 _ (List.mem_of_getElem? (i := 120) (by decide +kernel))) rfl
theorem tb_400 : (Jvm.Cond.methodLink "ReedSets$Solver" (53 : Nat) ({ cls := "ReedSets$Solver", name := "locateLost", desc := "(LReedSets$Word;)V" } : Jvm.MethodName)) ∈ tb := tb_of (tb_in2 _ (List.mem_of_getElem? (i := 121) (by decide +kernel))) rfl
theorem tb_402 : (Jvm.Cond.instanceMethod ({ cls := "ReedSets$Solver", name := "locateLost", desc := "(LReedSets$Word;)V" } : Jvm.MethodName)) ∈ tb := tb_of (tb_in2 _ (List.mem_of_getElem? (i := 123) (by decide +kernel))) rfl
theorem tb_403 : (Jvm.Cond.code ({ cls := "ReedSets$Solver", name := "locateLost", desc := "(LReedSets$Word;)V" } : Jvm.MethodName) prog_5_method_4_code (6 : Nat) (Option.none : Option Jvm.ClassFile.FieldType)) ∈ tb := tb_of (tb_in2 _ (List.mem_of_getElem? (i := 124) (by decide +kernel))) rfl
theorem tb_404 : (Jvm.Cond.methodLink "ReedSets$Solver" (82 : Nat) ({ cls := "java/util/Arrays", name := "fill", desc := "([II)V" } : Jvm.MethodName)) ∈ tb := tb_of (tb_in2 _ (List.mem_of_getElem? (i := 125) (by decide +kernel))) rfl
theorem tb_405 : (Jvm.Cond.methodLink "ReedSets$Solver" (88 : Nat) ({ cls := "ReedSets$Word", name := "size", desc := "()I" } : Jvm.MethodName)) ∈ tb := tb_of (tb_in2 _ (List.mem_of_getElem? (i := 126) (by decide +kernel))) rfl
theorem tb_406 : (Jvm.Cond.methodLink "ReedSets$Solver" (96 : Nat) ({ cls := "ReedSets$Word", name := "powerAt", desc := "(I)I" } : Jvm.MethodName)) ∈ tb := tb_of (tb_in2 _ (List.mem_of_getElem? (i := 127) (by decide +kernel))) rfl
theorem tb_407 : (Jvm.Cond.instanceMethod ({ cls := "ReedSets$Word", name := "powerAt", desc := "(I)I" } : Jvm.MethodName)) ∈ tb := tb_of (tb_in2 _ (List.mem_of_getElem? (i := 128) (by decide +kernel))) rfl
theorem tb_408 : (Jvm.Cond.selects "ReedSets$Word" ({ cls := "ReedSets$Word", name := "powerAt", desc := "(I)I" } : Jvm.MethodName) ({ cls := "ReedSets$Word", name := "powerAt", desc := "(I)I" } : Jvm.MethodName)) ∈ tb := tb_of (tb_in2 _ (List.mem_of_getElem? (i := 129) (by decide +kernel))) rfl
theorem tb_409 : (Jvm.Cond.code ({ cls := "ReedSets$Word", name := "powerAt", desc := "(I)I" } : Jvm.MethodName) prog_7_method_11_code (2 : Nat) (Option.some Jvm.ClassFile.FieldType.int)) ∈ tb := tb_of (tb_in2 _ (List.mem_of_getElem? (i := 130) (by decide +kernel))) rfl
theorem tb_410 : (Jvm.Cond.methodLink "ReedSets$Solver" (99 : Nat) ({ cls := "ReedSets$Field", name := "powerOfTwo", desc := "(I)I" } : Jvm.MethodName)) ∈ tb := tb_of (tb_in2 _ (List.mem_of_getElem? (i := 131) (by decide +kernel))) rfl
theorem tb_411 : (Jvm.Cond.methodLink "ReedSets$Solver" (104 : Nat) ({ cls := "ReedSets$Field", name := "product", desc := "(II)I" } : Jvm.MethodName)) ∈ tb := tb_of (tb_in2 _ (List.mem_of_getElem? (i := 132) (by decide +kernel))) rfl
theorem tb_412 : (Jvm.Cond.methodLink "ReedSets$Solver" (56 : Nat) ({ cls := "ReedSets$Solver", name := "locateErrors", desc := "(II)I" } : Jvm.MethodName)) ∈ tb := tb_of (tb_in2 _ (List.mem_of_getElem? (i := 133) (by decide +kernel))) rfl
theorem tb_414 : (Jvm.Cond.instanceMethod ({ cls := "ReedSets$Solver", name := "locateErrors", desc := "(II)I" } : Jvm.MethodName)) ∈ tb := tb_of (tb_in2 _ (List.mem_of_getElem? (i := 135) (by decide +kernel))) rfl
theorem tb_415 : (Jvm.Cond.code ({ cls := "ReedSets$Solver", name := "locateErrors", desc := "(II)I" } : Jvm.MethodName) prog_5_method_5_code (7 : Nat) (Option.some Jvm.ClassFile.FieldType.int)) ∈ tb := tb_of (tb_in2 _ (List.mem_of_getElem? (i := 136) (by decide +kernel))) rfl
theorem tb_416 : (Jvm.Cond.methodLink "ReedSets$Solver" (107 : Nat) ({ cls := "java/lang/System", name := "arraycopy", desc := "(Ljava/lang/Object;ILjava/lang/Object;II)V" } : Jvm.MethodName)) ∈ tb := tb_of (tb_in2 _ (List.mem_of_getElem? (i := 137) (by decide +kernel))) rfl
theorem tb_417 : (Jvm.Cond.static ({ cls := "java/lang/System", name := "arraycopy", desc := "(Ljava/lang/Object;ILjava/lang/Object;II)V" } : Jvm.MethodName)) ∈ tb := tb_of (tb_in2 _ (List.mem_of_getElem? (i := 138) (by decide +kernel))) rfl
theorem tb_418 : (Jvm.Cond.native ({ cls := "java/lang/System", name := "arraycopy", desc := "(Ljava/lang/Object;ILjava/lang/Object;II)V" } : Jvm.MethodName)) ∈ tb := tb_of (tb_in2 _ (List.mem_of_getElem? (i := 139) (by decide +kernel))) rfl
theorem tb_419 : (Jvm.Cond.methodLink "ReedSets$Solver" (113 : Nat) ({ cls := "ReedSets$Solver", name := "discrepancy", desc := "(II)I" } : Jvm.MethodName)) ∈ tb := tb_of (tb_in2 _ (List.mem_of_getElem? (i := 140) (by decide +kernel))) rfl
theorem tb_421 : (Jvm.Cond.instanceMethod ({ cls := "ReedSets$Solver", name := "discrepancy", desc := "(II)I" } : Jvm.MethodName)) ∈ tb := tb_of (tb_in2 _ (List.mem_of_getElem? (i := 142) (by decide +kernel))) rfl
theorem tb_422 : (Jvm.Cond.code ({ cls := "ReedSets$Solver", name := "discrepancy", desc := "(II)I" } : Jvm.MethodName) prog_5_method_6_code (5 : Nat) (Option.some Jvm.ClassFile.FieldType.int)) ∈ tb := tb_of (tb_in2 _ (List.mem_of_getElem? (i := 143) (by decide +kernel))) rfl
theorem tb_423 : (Jvm.Cond.methodLink "ReedSets$Solver" (116 : Nat) ({ cls := "ReedSets$Solver", name := "shiftHelper", desc := "()V" } : Jvm.MethodName)) ∈ tb := tb_of (tb_in2 _ (List.mem_of_getElem? (i := 144) (by decide +kernel))) rfl
theorem tb_425 : (Jvm.Cond.instanceMethod ({ cls := "ReedSets$Solver", name := "shiftHelper", desc := "()V" } : Jvm.MethodName)) ∈ tb := tb_of (tb_in2 _ (List.mem_of_getElem? (i := 146) (by decide +kernel))) rfl
theorem tb_426 : (Jvm.Cond.code ({ cls := "ReedSets$Solver", name := "shiftHelper", desc := "()V" } : Jvm.MethodName) prog_5_method_7_code (2 : Nat) (Option.none : Option Jvm.ClassFile.FieldType)) ∈ tb := tb_of (tb_in2 _ (List.mem_of_getElem? (i := 147) (by decide +kernel))) rfl
theorem tb_427 : (Jvm.Cond.methodLink "ReedSets$Solver" (119 : Nat) ({ cls := "ReedSets$Solver", name := "addHelper", desc := "(I)V" } : Jvm.MethodName)) ∈ tb := tb_of (tb_in2 _ (List.mem_of_getElem? (i := 148) (by decide +kernel))) rfl
theorem tb_429 : (Jvm.Cond.instanceMethod ({ cls := "ReedSets$Solver", name := "addHelper", desc := "(I)V" } : Jvm.MethodName)) ∈ tb := tb_of (tb_in2 _ (List.mem_of_getElem? (i := 150) (by decide +kernel))) rfl
theorem tb_430 : (Jvm.Cond.code ({ cls := "ReedSets$Solver", name := "addHelper", desc := "(I)V" } : Jvm.MethodName) prog_5_method_8_code (3 : Nat) (Option.none : Option Jvm.ClassFile.FieldType)) ∈ tb := tb_of (tb_in2 _ (List.mem_of_getElem? (i := 151) (by decide +kernel))) rfl
theorem tb_431 : (Jvm.Cond.methodLink "ReedSets$Solver" (123 : Nat) ({ cls := "ReedSets$Solver", name := "keepForLater", desc := "(I)V" } : Jvm.MethodName)) ∈ tb := tb_of (tb_in2 _ (List.mem_of_getElem? (i := 152) (by decide +kernel))) rfl
theorem tb_433 : (Jvm.Cond.instanceMethod ({ cls := "ReedSets$Solver", name := "keepForLater", desc := "(I)V" } : Jvm.MethodName)) ∈ tb := tb_of (tb_in2 _ (List.mem_of_getElem? (i := 154) (by decide +kernel))) rfl
theorem tb_434 : (Jvm.Cond.code ({ cls := "ReedSets$Solver", name := "keepForLater", desc := "(I)V" } : Jvm.MethodName) prog_5_method_9_code (3 : Nat) (Option.none : Option Jvm.ClassFile.FieldType)) ∈ tb := tb_of (tb_in2 _ (List.mem_of_getElem? (i := 155) (by decide +kernel))) rfl
theorem tb_435 : (Jvm.Cond.methodLink "ReedSets$Solver" (126 : Nat) ({ cls := "ReedSets$Field", name := "quotient", desc := "(II)I" } : Jvm.MethodName)) ∈ tb := tb_of (tb_in2 _ (List.mem_of_getElem? (i := 156) (by decide +kernel))) rfl
theorem tb_436 : (Jvm.Cond.methodLink "ReedSets$Solver" (60 : Nat) ({ cls := "ReedSets$Solver", name := "findPlaces", desc := "(LReedSets$Word;I)Z" } : Jvm.MethodName)) ∈ tb := tb_of (tb_in2 _ (List.mem_of_getElem? (i := 157) (by decide +kernel))) rfl
theorem tb_438 : (Jvm.Cond.instanceMethod ({ cls := "ReedSets$Solver", name := "findPlaces", desc := "(LReedSets$Word;I)Z" } : Jvm.MethodName)) ∈ tb := tb_of (tb_in2 _ (List.mem_of_getElem? (i := 159) (by decide +kernel))) rfl
theorem tb_439 : (Jvm.Cond.code ({ cls := "ReedSets$Solver", name := "findPlaces", desc := "(LReedSets$Word;I)Z" } : Jvm.MethodName) prog_5_method_10_code (5 : Nat) (Option.some Jvm.ClassFile.FieldType.boolean)) ∈ tb := tb_of (tb_in2 _ (List.mem_of_getElem? (i := 160) (by decide +kernel))) rfl
theorem tb_440 : (Jvm.Cond.methodLink "ReedSets$Solver" (129 : Nat) ({ cls := "ReedSets$Field", name := "valueOf", desc := "([III)I" } : Jvm.MethodName)) ∈ tb := tb_of (tb_in2 _ (List.mem_of_getElem? (i := 161) (by decide +kernel))) rfl
theorem tb_441 : (Jvm.Cond.instanceMethod ({ cls := "ReedSets$Field", name := "valueOf", desc := "([III)I" } : Jvm.MethodName)) ∈ tb := tb_of (tb_in2 _ (List.mem_of_getElem? (i := 162) (by decide +kernel))) rfl
theorem tb_442 : (Jvm.Cond.selects "ReedSets$Field" ({ cls := "ReedSets$Field", name := "valueOf", desc := "([III)I" } : Jvm.MethodName) ({ cls := "ReedSets$Field", name := "valueOf", desc := "([III)I" } : Jvm.MethodName)) ∈ tb := tb_of (tb_in2 _ (List.mem_of_getElem? (i := 163) (by decide +kernel))) rfl
theorem tb_443 : (Jvm.Cond.code ({ cls := "ReedSets$Field", name := "valueOf", desc := "([III)I" } : Jvm.MethodName) prog_3_method_8_code (6 : Nat) (Option.some Jvm.ClassFile.FieldType.int)) ∈ tb := tb_of (tb_in2 _ (List.mem_of_getElem? (i := 164) (by decide +kernel))) rfl
theorem tb_444 : (Jvm.Cond.methodLink "ReedSets$Field" (28 : Nat) ({ cls := "java/lang/Math", name := "min", desc := "(II)I" } : Jvm.MethodName)) ∈ tb := tb_of (tb_in2 _ (List.mem_of_getElem? (i := 165) (by decide +kernel))) rfl
theorem tb_445 : (Jvm.Cond.static ({ cls := "java/lang/Math", name := "min", desc := "(II)I" } : Jvm.MethodName)) ∈ tb := tb_of (tb_in2 _ (List.mem_of_getElem? (i := 166) (by decide +kernel))) rfl
theorem tb_446 : (Jvm.Cond.code ({ cls := "java/lang/Math", name := "min", desc := "(II)I" } : Jvm.MethodName) prog_10_method_69_code (2 : Nat) (Option.some Jvm.ClassFile.FieldType.int)) ∈ tb := tb_of (tb_in2 _ (List.mem_of_getElem? (i := 167) (by decide +kernel))) rfl
theorem tb_447 : (Jvm.Cond.methodLink "ReedSets$Field" (31 : Nat) ({ cls := "ReedSets$Field", name := "product", desc := "(II)I" } : Jvm.MethodName)) ∈ tb := tb_of (tb_in2 _ (List.mem_of_getElem? (i := 168) (by decide +kernel))) rfl
theorem tb_448 : (Jvm.Cond.methodLink "ReedSets$Solver" (64 : Nat) ({ cls := "ReedSets$Solver", name := "findFixes", desc := "(LReedSets$Word;)V" } : Jvm.MethodName)) ∈ tb := tb_of (tb_in2 _ (List.mem_of_getElem? (i := 169) (by decide +kernel))) rfl
theorem tb_450 : (Jvm.Cond.instanceMethod ({ cls := "ReedSets$Solver", name := "findFixes", desc := "(LReedSets$Word;)V" } : Jvm.MethodName)) ∈ tb := tb_of (tb_in2 _ (List.mem_of_getElem? (i := 171) (by decide +kernel))) rfl
theorem tb_451 : (Jvm.Cond.code ({ cls := "ReedSets$Solver", name := "findFixes", desc := "(LReedSets$Word;)V" } : Jvm.MethodName) prog_5_method_11_code (6 : Nat) (Option.none : Option Jvm.ClassFile.FieldType)) ∈ tb := tb_of (tb_in2 _ (List.mem_of_getElem? (i := 172) (by decide +kernel))) rfl
theorem tb_452 : (Jvm.Cond.methodLink "ReedSets$Solver" (133 : Nat) ({ cls := "ReedSets$Solver", name := "slopeAt", desc := "(I)I" } : Jvm.MethodName)) ∈ tb := tb_of (tb_in2 _ (List.mem_of_getElem? (i := 173) (by decide +kernel))) rfl
theorem tb_454 : (Jvm.Cond.instanceMethod ({ cls := "ReedSets$Solver", name := "slopeAt", desc := "(I)I" } : Jvm.MethodName)) ∈ tb := tb_of (tb_in2 _ (List.mem_of_getElem? (i := 175) (by decide +kernel))) rfl
theorem tb_455 : (Jvm.Cond.code ({ cls := "ReedSets$Solver", name := "slopeAt", desc := "(I)I" } : Jvm.MethodName) prog_5_method_12_code (5 : Nat) (Option.some Jvm.ClassFile.FieldType.int)) ∈ tb := tb_of (tb_in2 _ (List.mem_of_getElem? (i := 176) (by decide +kernel))) rfl
theorem tb_456 : (Jvm.Cond.methodLink "ReedSets$Solver" (67 : Nat) ({ cls := "ReedSets$Solver", name := "isRightAfter", desc := "(LReedSets$Word;)Z" } : Jvm.MethodName)) ∈ tb := tb_of (tb_in2 _ (List.mem_of_getElem? (i := 177) (by decide +kernel))) rfl
theorem tb_458 : (Jvm.Cond.instanceMethod ({ cls := "ReedSets$Solver", name := "isRightAfter", desc := "(LReedSets$Word;)Z" } : Jvm.MethodName)) ∈ tb := tb_of (tb_in2 _ (List.mem_of_getElem? (i := 179) (by decide +kernel))) rfl
theorem tb_459 : (Jvm.Cond.code ({ cls := "ReedSets$Solver", name := "isRightAfter", desc := "(LReedSets$Word;)Z" } : Jvm.MethodName) prog_5_method_13_code (6 : Nat) (Option.some Jvm.ClassFile.FieldType.boolean)) ∈ tb := tb_of (tb_in2 _ (List.mem_of_getElem? (i := 180) (by decide +kernel))) rfl
theorem tb_460 : (Jvm.Cond.methodLink "ReedSets$Solver" (71 : Nat) ({ cls := "ReedSets$Solver", name := "countErrors", desc := "(LReedSets$Word;)I" } : Jvm.MethodName)) ∈ tb := tb_of (tb_in2 _ (List.mem_of_getElem? (i := 181) (by decide +kernel))) rfl
theorem tb_462 : (Jvm.Cond.instanceMethod ({ cls := "ReedSets$Solver", name := "countErrors", desc := "(LReedSets$Word;)I" } : Jvm.MethodName)) ∈ tb := tb_of (tb_in2 _ (List.mem_of_getElem? (i := 183) (by decide +kernel))) rfl
theorem tb_463 : (Jvm.Cond.code ({ cls := "ReedSets$Solver", name := "countErrors", desc := "(LReedSets$Word;)I" } : Jvm.MethodName) prog_5_method_14_code (4 : Nat) (Option.some Jvm.ClassFile.FieldType.int)) ∈ tb := tb_of (tb_in2 _ (List.mem_of_getElem? (i := 184) (by decide +kernel))) rfl
theorem tb_464 : (Jvm.Cond.methodLink "ReedSets" (120 : Nat) ({ cls := "ReedSets$Changes", name := "forgetAll", desc := "()V" } : Jvm.MethodName)) ∈ tb := tb_of (tb_in2 _ (List.mem_of_getElem? (i := 185) (by decide +kernel))) rfl
theorem tb_465 : (Jvm.Cond.instanceMethod ({ cls := "ReedSets$Changes", name := "forgetAll", desc := "()V" } : Jvm.MethodName)) ∈ tb := tb_of (tb_in2 _ (List.mem_of_getElem? (i := 186) (by decide +kernel))) rfl
theorem tb_466 : (Jvm.Cond.selects "ReedSets$Changes" ({ cls := "ReedSets$Changes", name := "forgetAll", desc := "()V" } : Jvm.MethodName) ({ cls := "ReedSets$Changes", name := "forgetAll", desc := "()V" } : Jvm.MethodName)) ∈ tb := tb_of (tb_in2 _ (List.mem_of_getElem? (i := 187) (by decide +kernel))) rfl
theorem tb_467 : (Jvm.Cond.code ({ cls := "ReedSets$Changes", name := "forgetAll", desc := "()V" } : Jvm.MethodName) prog_2_method_2_code (1 : Nat) (Option.none : Option Jvm.ClassFile.FieldType)) ∈ tb := tb_of (tb_in2 _ (List.mem_of_getElem? (i := 188) (by decide +kernel))) rfl
theorem tb_468 : (Jvm.Cond.methodLink "ReedSets" (129 : Nat) ({ cls := "ReedSets$Solver", name := "byteAfter", desc := "(LReedSets$Word;I)I" } : Jvm.MethodName)) ∈ tb := tb_of (tb_in2 _ (List.mem_of_getElem? (i := 189) (by decide +kernel))) rfl
theorem tb_469 : (Jvm.Cond.instanceMethod ({ cls := "ReedSets$Solver", name := "byteAfter", desc := "(LReedSets$Word;I)I" } : Jvm.MethodName)) ∈ tb := tb_of (tb_in2 _ (List.mem_of_getElem? (i := 190) (by decide +kernel))) rfl
theorem tb_470 : (Jvm.Cond.selects "ReedSets$Solver" ({ cls := "ReedSets$Solver", name := "byteAfter", desc := "(LReedSets$Word;I)I" } : Jvm.MethodName) ({ cls := "ReedSets$Solver", name := "byteAfter", desc := "(LReedSets$Word;I)I" } : Jvm.MethodName)) ∈ tb := tb_of (tb_in2 _ (List.mem_of_getElem? (i := 191) (by decide +kernel))) rfl
theorem tb_471 : (Jvm.Cond.code ({ cls := "ReedSets$Solver", name := "byteAfter", desc := "(LReedSets$Word;I)I" } : Jvm.MethodName) prog_5_method_16_code (4 : Nat) (Option.some Jvm.ClassFile.FieldType.int)) ∈ tb := tb_of (tb_in2 _ (List.mem_of_getElem? (i := 192) (by decide +kernel))) rfl
theorem tb_472 : (Jvm.Cond.methodLink "ReedSets" (133 : Nat) ({ cls := "ReedSets$Changes", name := "note", desc := "(II)V" } : Jvm.MethodName)) ∈ tb := tb_of (tb_in2 _ (List.mem_of_getElem? (i := 193) (by decide +kernel))) rfl
theorem tb_473 : (Jvm.Cond.instanceMethod ({ cls := "ReedSets$Changes", name := "note", desc := "(II)V" } : Jvm.MethodName)) ∈ tb := tb_of (tb_in2 _ (List.mem_of_getElem? (i := 194) (by decide +kernel))) rfl
theorem tb_474 : (Jvm.Cond.selects "ReedSets$Changes" ({ cls := "ReedSets$Changes", name := "note", desc := "(II)V" } : Jvm.MethodName) ({ cls := "ReedSets$Changes", name := "note", desc := "(II)V" } : Jvm.MethodName)) ∈ tb := tb_of (tb_in2 _ (List.mem_of_getElem? (i := 195) (by decide +kernel))) rfl
theorem tb_475 : (Jvm.Cond.code ({ cls := "ReedSets$Changes", name := "note", desc := "(II)V" } : Jvm.MethodName) prog_2_method_3_code (3 : Nat) (Option.none : Option Jvm.ClassFile.FieldType)) ∈ tb := tb_of (tb_in2 _ (List.mem_of_getElem? (i := 196) (by decide +kernel))) rfl
theorem tb_476 : (Jvm.Cond.methodLink "ReedSets" (137 : Nat) ({ cls := "ReedSets$Solver", name := "settle", desc := "(LReedSets$Word;)V" } : Jvm.MethodName)) ∈ tb := tb_of (tb_in2 _ (List.mem_of_getElem? (i := 197) (by decide +kernel))) rfl
theorem tb_477 : (Jvm.Cond.instanceMethod ({ cls := "ReedSets$Solver", name := "settle", desc := "(LReedSets$Word;)V" } : Jvm.MethodName)) ∈ tb := tb_of (tb_in2 _ (List.mem_of_getElem? (i := 198) (by decide +kernel))) rfl
theorem tb_478 : (Jvm.Cond.selects "ReedSets$Solver" ({ cls := "ReedSets$Solver", name := "settle", desc := "(LReedSets$Word;)V" } : Jvm.MethodName) ({ cls := "ReedSets$Solver", name := "settle", desc := "(LReedSets$Word;)V" } : Jvm.MethodName)) ∈ tb := tb_of (tb_in2 _ (List.mem_of_getElem? (i := 199) (by decide +kernel))) rfl
theorem tb_479 : (Jvm.Cond.code ({ cls := "ReedSets$Solver", name := "settle", desc := "(LReedSets$Word;)V" } : Jvm.MethodName) prog_5_method_17_code (3 : Nat) (Option.none : Option Jvm.ClassFile.FieldType)) ∈ tb := tb_of (tb_in2 _ (List.mem_of_getElem? (i := 200) (by decide +kernel))) rfl
theorem tb_480 : (Jvm.Cond.methodLink "ReedSets$Solver" (139 : Nat) ({ cls := "ReedSets$Solver", name := "byteAfter", desc := "(LReedSets$Word;I)I" } : Jvm.MethodName)) ∈ tb := tb_of (tb_in2 _ (List.mem_of_getElem? (i := 201) (by decide +kernel))) rfl
theorem tb_481 : (Jvm.Cond.methodLink "ReedSets$Solver" (143 : Nat) ({ cls := "ReedSets$Word", name := "findAll", desc := "()V" } : Jvm.MethodName)) ∈ tb := tb_of (tb_in2 _ (List.mem_of_getElem? (i := 202) (by decide +kernel))) rfl
theorem tb_482 : (Jvm.Cond.methodLink "ReedSetsLaw" (65 : Nat) ({ cls := "ReedSets", name := "changed", desc := "(II)I" } : Jvm.MethodName)) ∈ tb := tb_of (tb_in2 _ (List.mem_of_getElem? (i := 203) (by decide +kernel))) rfl
theorem tb_483 : (Jvm.Cond.instanceMethod ({ cls := "ReedSets", name := "changed", desc := "(II)I" } : Jvm.MethodName)) ∈ tb := tb_of (tb_in2 _ (List.mem_of_getElem? (i := 204) (by decide +kernel))) rfl
theorem tb_484 : (Jvm.Cond.selects "ReedSets" ({ cls := "ReedSets", name := "changed", desc := "(II)I" } : Jvm.MethodName) ({ cls := "ReedSets", name := "changed", desc := "(II)I" } : Jvm.MethodName)) ∈ tb := tb_of (tb_in2 _ (List.mem_of_getElem? (i := 205) (by decide +kernel))) rfl
theorem tb_485 : (Jvm.Cond.code ({ cls := "ReedSets", name := "changed", desc := "(II)I" } : Jvm.MethodName) prog_1_method_14_code (3 : Nat) (Option.some Jvm.ClassFile.FieldType.int)) ∈ tb := tb_of (tb_in2 _ (List.mem_of_getElem? (i := 206) (by decide +kernel))) rfl
theorem tb_486 : (Jvm.Cond.methodLink "ReedSetsLaw" (69 : Nat) ({ cls := "ReedSets", name := "block", desc := "(IIII)I" } : Jvm.MethodName)) ∈ tb := tb_of (tb_in2 _ (List.mem_of_getElem? (i := 207) (by decide +kernel))) rfl
theorem tb_487 : (Jvm.Cond.instanceMethod ({ cls := "ReedSets", name := "block", desc := "(IIII)I" } : Jvm.MethodName)) ∈ tb := tb_of (tb_in2 _ (List.mem_of_getElem? (i := 208) (by decide +kernel))) rfl
theorem tb_488 : (Jvm.Cond.selects "ReedSets" ({ cls := "ReedSets", name := "block", desc := "(IIII)I" } : Jvm.MethodName) ({ cls := "ReedSets", name := "block", desc := "(IIII)I" } : Jvm.MethodName)) ∈ tb := tb_of (tb_in2 _ (List.mem_of_getElem? (i := 209) (by decide +kernel))) rfl
theorem tb_489 : (Jvm.Cond.code ({ cls := "ReedSets", name := "block", desc := "(IIII)I" } : Jvm.MethodName) prog_1_method_15_code (6 : Nat) (Option.some Jvm.ClassFile.FieldType.int)) ∈ tb := tb_of (tb_in2 _ (List.mem_of_getElem? (i := 210) (by decide +kernel))) rfl
theorem tb_490 : (Jvm.Cond.methodLink "ReedSets" (148 : Nat) ({ cls := "ReedSets", name := "mayFollow", desc := "(I)Z" } : Jvm.MethodName)) ∈ tb := tb_of (tb_in2 _ (List.mem_of_getElem? (i := 211) (by decide +kernel))) rfl
theorem tb_491 : (Jvm.Cond.static ({ cls := "ReedSets", name := "mayFollow", desc := "(I)Z" } : Jvm.MethodName)) ∈ tb := tb_of (tb_in2 _ (List.mem_of_getElem? (i := 212) (by decide +kernel))) rfl
theorem tb_492 : (Jvm.Cond.code ({ cls := "ReedSets", name := "mayFollow", desc := "(I)Z" } : Jvm.MethodName) prog_1_method_28_code (1 : Nat) (Option.some Jvm.ClassFile.FieldType.boolean)) ∈ tb := tb_of (tb_in2 _ (List.mem_of_getElem? (i := 213) (by decide +kernel))) rfl
theorem tb_493 : (Jvm.Cond.methodLink "ReedSets" (151 : Nat) ({ cls := "ReedSets", name := "counted", desc := "(I)I" } : Jvm.MethodName)) ∈ tb := tb_of (tb_in2 _ (List.mem_of_getElem? (i := 214) (by decide +kernel))) rfl
theorem tb_494 : (Jvm.Cond.static ({ cls := "ReedSets", name := "counted", desc := "(I)I" } : Jvm.MethodName)) ∈ tb := tb_of (tb_in2 _ (List.mem_of_getElem? (i := 215) (by decide +kernel))) rfl
theorem tb_495 : (Jvm.Cond.code ({ cls := "ReedSets", name := "counted", desc := "(I)I" } : Jvm.MethodName) prog_1_method_29_code (1 : Nat) (Option.some Jvm.ClassFile.FieldType.int)) ∈ tb := tb_of (tb_in2 _ (List.mem_of_getElem? (i := 216) (by decide +kernel))) rfl
theorem tb_496 : (Jvm.Cond.methodLink "ReedSets" (156 : Nat) ({ cls := "ReedSets$Striped", name := "append", desc := "(I)V" } : Jvm.MethodName)) ∈ tb := tb_of (tb_in2 _ (List.mem_of_getElem? (i := 217) (by decide +kernel))) rfl
theorem tb_497 : (Jvm.Cond.instanceMethod ({ cls := "ReedSets$Striped", name := "append", desc := "(I)V" } : Jvm.MethodName)) ∈ tb := tb_of (tb_in2 _ (List.mem_of_getElem? (i := 218) (by decide +kernel))) rfl
theorem tb_498 : (Jvm.Cond.selects "ReedSets$Striped" ({ cls := "ReedSets$Striped", name := "append", desc := "(I)V" } : Jvm.MethodName) ({ cls := "ReedSets$Striped", name := "append", desc := "(I)V" } : Jvm.MethodName)) ∈ tb := tb_of (tb_in2 _ (List.mem_of_getElem? (i := 219) (by decide +kernel))) rfl
theorem tb_499 : (Jvm.Cond.code ({ cls := "ReedSets$Striped", name := "append", desc := "(I)V" } : Jvm.MethodName) prog_6_method_2_code (2 : Nat) (Option.none : Option Jvm.ClassFile.FieldType)) ∈ tb := tb_of (tb_in2 _ (List.mem_of_getElem? (i := 220) (by decide +kernel))) rfl
theorem tb_500 : (Jvm.Cond.methodLink "ReedSets" (160 : Nat) ({ cls := "ReedSets$Striped", name := "takeUp", desc := "()V" } : Jvm.MethodName)) ∈ tb := tb_of (tb_in2 _ (List.mem_of_getElem? (i := 221) (by decide +kernel))) rfl
theorem tb_501 : (Jvm.Cond.instanceMethod ({ cls := "ReedSets$Striped", name := "takeUp", desc := "()V" } : Jvm.MethodName)) ∈ tb := tb_of (tb_in2 _ (List.mem_of_getElem? (i := 222) (by decide +kernel))) rfl
theorem tb_502 : (Jvm.Cond.selects "ReedSets$Striped" ({ cls := "ReedSets$Striped", name := "takeUp", desc := "()V" } : Jvm.MethodName) ({ cls := "ReedSets$Striped", name := "takeUp", desc := "()V" } : Jvm.MethodName)) ∈ tb := tb_of (tb_in2 _ (List.mem_of_getElem? (i := 223) (by decide +kernel))) rfl
theorem tb_503 : (Jvm.Cond.code ({ cls := "ReedSets$Striped", name := "takeUp", desc := "()V" } : Jvm.MethodName) prog_6_method_3_code (1 : Nat) (Option.none : Option Jvm.ClassFile.FieldType)) ∈ tb := tb_of (tb_in2 _ (List.mem_of_getElem? (i := 224) (by decide +kernel))) rfl
theorem tb_504 : (Jvm.Cond.methodLink "ReedSetsLaw" (74 : Nat) ({ cls := "ReedSets", name := "wipe", desc := "()I" } : Jvm.MethodName)) ∈ tb := tb_of (tb_in2 _ (List.mem_of_getElem? (i := 225) (by decide +kernel))) rfl
theorem tb_505 : (Jvm.Cond.instanceMethod ({ cls := "ReedSets", name := "wipe", desc := "()I" } : Jvm.MethodName)) ∈ tb := tb_of (tb_in2 _ (List.mem_of_getElem? (i := 226) (by decide +kernel))) rfl
theorem tb_506 : (Jvm.Cond.selects "ReedSets" ({ cls := "ReedSets", name := "wipe", desc := "()I" } : Jvm.MethodName) ({ cls := "ReedSets", name := "wipe", desc := "()I" } : Jvm.MethodName)) ∈ tb := tb_of (tb_in2 _ (List.mem_of_getElem? (i := 227) (by decide +kernel))) rfl
theorem tb_507 : (Jvm.Cond.code ({ cls := "ReedSets", name := "wipe", desc := "()I" } : Jvm.MethodName) prog_1_method_16_code (2 : Nat) (Option.some Jvm.ClassFile.FieldType.int)) ∈ tb := tb_of (tb_in2 _ (List.mem_of_getElem? (i := 228) (by decide +kernel))) rfl
theorem tb_508 : (Jvm.Cond.methodLink "ReedSetsLaw" (78 : Nat) ({ cls := "ReedSets", name := "lay", desc := "(I)I" } : Jvm.MethodName)) ∈ tb := tb_of (tb_in2 _ (List.mem_of_getElem? (i := 229) (by decide +kernel))) rfl
theorem tb_509 : (Jvm.Cond.instanceMethod ({ cls := "ReedSets", name := "lay", desc := "(I)I" } : Jvm.MethodName)) ∈ tb := tb_of (tb_in2 _ (List.mem_of_getElem? (i := 230) (by decide +kernel))) rfl
theorem tb_510 : (Jvm.Cond.selects "ReedSets" ({ cls := "ReedSets", name := "lay", desc := "(I)I" } : Jvm.MethodName) ({ cls := "ReedSets", name := "lay", desc := "(I)I" } : Jvm.MethodName)) ∈ tb := tb_of (tb_in2 _ (List.mem_of_getElem? (i := 231) (by decide +kernel))) rfl
theorem tb_511 : (Jvm.Cond.code ({ cls := "ReedSets", name := "lay", desc := "(I)I" } : Jvm.MethodName) prog_1_method_17_code (2 : Nat) (Option.some Jvm.ClassFile.FieldType.int)) ∈ tb := tb_of (tb_in2 _ (List.mem_of_getElem? (i := 232) (by decide +kernel))) rfl
theorem tb_512 : (Jvm.Cond.methodLink "ReedSets" (163 : Nat) ({ cls := "ReedSets$Striped", name := "layIn", desc := "(III)I" } : Jvm.MethodName)) ∈ tb := tb_of (tb_in2 _ (List.mem_of_getElem? (i := 233) (by decide +kernel))) rfl
theorem tb_513 : (Jvm.Cond.instanceMethod ({ cls := "ReedSets$Striped", name := "layIn", desc := "(III)I" } : Jvm.MethodName)) ∈ tb := tb_of (tb_in2 _ (List.mem_of_getElem? (i := 234) (by decide +kernel))) rfl
theorem tb_514 : (Jvm.Cond.selects "ReedSets$Striped" ({ cls := "ReedSets$Striped", name := "layIn", desc := "(III)I" } : Jvm.MethodName) ({ cls := "ReedSets$Striped", name := "layIn", desc := "(III)I" } : Jvm.MethodName)) ∈ tb := tb_of (tb_in2 _ (List.mem_of_getElem? (i := 235) (by decide +kernel))) rfl
theorem tb_515 : (Jvm.Cond.code ({ cls := "ReedSets$Striped", name := "layIn", desc := "(III)I" } : Jvm.MethodName) prog_6_method_6_code (6 : Nat) (Option.some Jvm.ClassFile.FieldType.int)) ∈ tb := tb_of (tb_in2 _ (List.mem_of_getElem? (i := 236) (by decide +kernel))) rfl
theorem tb_516 : (Jvm.Cond.methodLink "ReedSets$Striped" (44 : Nat) ({ cls := "ReedSets$Word", name := "shape", desc := "(III)V" } : Jvm.MethodName)) ∈ tb := tb_of (tb_in2 _ (List.mem_of_getElem? (i := 237) (by decide +kernel))) rfl
theorem tb_517 : (Jvm.Cond.methodLink "ReedSets$Striped" (48 : Nat) ({ cls := "ReedSets$Striped", name := "layStripe", desc := "(I)V" } : Jvm.MethodName)) ∈ tb := tb_of (tb_in2 _ (List.mem_of_getElem? (i := 238) (by decide +kernel))) rfl
theorem tb_519 : (Jvm.Cond.instanceMethod ({ cls := "ReedSets$Striped", name := "layStripe", desc := "(I)V" } : Jvm.MethodName)) ∈ tb := tb_of (tb_in3 _ (List.mem_of_getElem? (i := 0) (by decide +kernel))) rfl
theorem tb_520 : (Jvm.Cond.code ({ cls := "ReedSets$Striped", name := "layStripe", desc := "(I)V" } : Jvm.MethodName) prog_6_method_7_code (4 : Nat) (Option.none : Option Jvm.ClassFile.FieldType)) ∈ tb := tb_of (tb_in3 _ (List.mem_of_getElem? (i := 1) (by decide +kernel))) rfl
theorem tb_521 : (Jvm.Cond.methodLink "ReedSets$Striped" (55 : Nat) ({ cls := "ReedSets$Striped", name := "slotOf", desc := "(II)I" } : Jvm.MethodName)) ∈ tb := tb_of (tb_in3 _ (List.mem_of_getElem? (i := 2) (by decide +kernel))) rfl
theorem tb_523 : (Jvm.Cond.instanceMethod ({ cls := "ReedSets$Striped", name := "slotOf", desc := "(II)I" } : Jvm.MethodName)) ∈ tb := tb_of (tb_in3 _ (List.mem_of_getElem? (i := 4) (by decide +kernel))) rfl
theorem tb_524 : (Jvm.Cond.code ({ cls := "ReedSets$Striped", name := "slotOf", desc := "(II)I" } : Jvm.MethodName) prog_6_method_8_code (4 : Nat) (Option.some Jvm.ClassFile.FieldType.int)) ∈ tb := tb_of (tb_in3 _ (List.mem_of_getElem? (i := 5) (by decide +kernel))) rfl
theorem tb_525 : (Jvm.Cond.methodLink "ReedSets$Striped" (62 : Nat) ({ cls := "ReedSets$Word", name := "fillRepairs", desc := "()V" } : Jvm.MethodName)) ∈ tb := tb_of (tb_in3 _ (List.mem_of_getElem? (i := 6) (by decide +kernel))) rfl
theorem tb_526 : (Jvm.Cond.methodLink "ReedSets$Striped" (65 : Nat) ({ cls := "ReedSets$Striped", name := "storeStripe", desc := "(I)V" } : Jvm.MethodName)) ∈ tb := tb_of (tb_in3 _ (List.mem_of_getElem? (i := 7) (by decide +kernel))) rfl
theorem tb_528 : (Jvm.Cond.instanceMethod ({ cls := "ReedSets$Striped", name := "storeStripe", desc := "(I)V" } : Jvm.MethodName)) ∈ tb := tb_of (tb_in3 _ (List.mem_of_getElem? (i := 9) (by decide +kernel))) rfl
theorem tb_529 : (Jvm.Cond.code ({ cls := "ReedSets$Striped", name := "storeStripe", desc := "(I)V" } : Jvm.MethodName) prog_6_method_9_code (4 : Nat) (Option.none : Option Jvm.ClassFile.FieldType)) ∈ tb := tb_of (tb_in3 _ (List.mem_of_getElem? (i := 10) (by decide +kernel))) rfl
theorem tb_530 : (Jvm.Cond.methodLink "ReedSets$Striped" (68 : Nat) ({ cls := "ReedSets$Word", name := "size", desc := "()I" } : Jvm.MethodName)) ∈ tb := tb_of (tb_in3 _ (List.mem_of_getElem? (i := 11) (by decide +kernel))) rfl
theorem tb_531 : (Jvm.Cond.methodLink "ReedSetsLaw" (82 : Nat) ({ cls := "ReedSets", name := "sent", desc := "(I)I" } : Jvm.MethodName)) ∈ tb := tb_of (tb_in3 _ (List.mem_of_getElem? (i := 12) (by decide +kernel))) rfl
theorem tb_532 : (Jvm.Cond.instanceMethod ({ cls := "ReedSets", name := "sent", desc := "(I)I" } : Jvm.MethodName)) ∈ tb := tb_of (tb_in3 _ (List.mem_of_getElem? (i := 13) (by decide +kernel))) rfl
theorem tb_533 : (Jvm.Cond.selects "ReedSets" ({ cls := "ReedSets", name := "sent", desc := "(I)I" } : Jvm.MethodName) ({ cls := "ReedSets", name := "sent", desc := "(I)I" } : Jvm.MethodName)) ∈ tb := tb_of (tb_in3 _ (List.mem_of_getElem? (i := 14) (by decide +kernel))) rfl
theorem tb_534 : (Jvm.Cond.code ({ cls := "ReedSets", name := "sent", desc := "(I)I" } : Jvm.MethodName) prog_1_method_18_code (2 : Nat) (Option.some Jvm.ClassFile.FieldType.int)) ∈ tb := tb_of (tb_in3 _ (List.mem_of_getElem? (i := 15) (by decide +kernel))) rfl
theorem tb_535 : (Jvm.Cond.methodLink "ReedSets" (167 : Nat) ({ cls := "ReedSets$Striped", name := "hasSent", desc := "(I)Z" } : Jvm.MethodName)) ∈ tb := tb_of (tb_in3 _ (List.mem_of_getElem? (i := 16) (by decide +kernel))) rfl
theorem tb_536 : (Jvm.Cond.instanceMethod ({ cls := "ReedSets$Striped", name := "hasSent", desc := "(I)Z" } : Jvm.MethodName)) ∈ tb := tb_of (tb_in3 _ (List.mem_of_getElem? (i := 17) (by decide +kernel))) rfl
theorem tb_537 : (Jvm.Cond.selects "ReedSets$Striped" ({ cls := "ReedSets$Striped", name := "hasSent", desc := "(I)Z" } : Jvm.MethodName) ({ cls := "ReedSets$Striped", name := "hasSent", desc := "(I)Z" } : Jvm.MethodName)) ∈ tb := tb_of (tb_in3 _ (List.mem_of_getElem? (i := 18) (by decide +kernel))) rfl
theorem tb_538 : (Jvm.Cond.code ({ cls := "ReedSets$Striped", name := "hasSent", desc := "(I)Z" } : Jvm.MethodName) prog_6_method_5_code (2 : Nat) (Option.some Jvm.ClassFile.FieldType.boolean)) ∈ tb := tb_of (tb_in3 _ (List.mem_of_getElem? (i := 19) (by decide +kernel))) rfl
theorem tb_539 : (Jvm.Cond.methodLink "ReedSetsLaw" (86 : Nat) ({ cls := "ReedSets", name := "damage", desc := "(III)I" } : Jvm.MethodName)) ∈ tb := tb_of (tb_in3 _ (List.mem_of_getElem? (i := 20) (by decide +kernel))) rfl
theorem tb_540 : (Jvm.Cond.instanceMethod ({ cls := "ReedSets", name := "damage", desc := "(III)I" } : Jvm.MethodName)) ∈ tb := tb_of (tb_in3 _ (List.mem_of_getElem? (i := 21) (by decide +kernel))) rfl
theorem tb_541 : (Jvm.Cond.selects "ReedSets" ({ cls := "ReedSets", name := "damage", desc := "(III)I" } : Jvm.MethodName) ({ cls := "ReedSets", name := "damage", desc := "(III)I" } : Jvm.MethodName)) ∈ tb := tb_of (tb_in3 _ (List.mem_of_getElem? (i := 22) (by decide +kernel))) rfl
theorem tb_542 : (Jvm.Cond.code ({ cls := "ReedSets", name := "damage", desc := "(III)I" } : Jvm.MethodName) prog_1_method_19_code (4 : Nat) (Option.some Jvm.ClassFile.FieldType.int)) ∈ tb := tb_of (tb_in3 _ (List.mem_of_getElem? (i := 23) (by decide +kernel))) rfl
theorem tb_543 : (Jvm.Cond.methodLink "ReedSets" (176 : Nat) ({ cls := "ReedSets$Striped", name := "harm", desc := "(III)V" } : Jvm.MethodName)) ∈ tb := tb_of (tb_in3 _ (List.mem_of_getElem? (i := 24) (by decide +kernel))) rfl
theorem tb_544 : (Jvm.Cond.instanceMethod ({ cls := "ReedSets$Striped", name := "harm", desc := "(III)V" } : Jvm.MethodName)) ∈ tb := tb_of (tb_in3 _ (List.mem_of_getElem? (i := 25) (by decide +kernel))) rfl
theorem tb_545 : (Jvm.Cond.selects "ReedSets$Striped" ({ cls := "ReedSets$Striped", name := "harm", desc := "(III)V" } : Jvm.MethodName) ({ cls := "ReedSets$Striped", name := "harm", desc := "(III)V" } : Jvm.MethodName)) ∈ tb := tb_of (tb_in3 _ (List.mem_of_getElem? (i := 26) (by decide +kernel))) rfl
theorem tb_546 : (Jvm.Cond.code ({ cls := "ReedSets$Striped", name := "harm", desc := "(III)V" } : Jvm.MethodName) prog_6_method_11_code (5 : Nat) (Option.none : Option Jvm.ClassFile.FieldType)) ∈ tb := tb_of (tb_in3 _ (List.mem_of_getElem? (i := 27) (by decide +kernel))) rfl
theorem tb_547 : (Jvm.Cond.methodLink "ReedSetsLaw" (90 : Nat) ({ cls := "ReedSets", name := "mend", desc := "()I" } : Jvm.MethodName)) ∈ tb := tb_of (tb_in3 _ (List.mem_of_getElem? (i := 28) (by decide +kernel))) rfl
theorem tb_548 : (Jvm.Cond.instanceMethod ({ cls := "ReedSets", name := "mend", desc := "()I" } : Jvm.MethodName)) ∈ tb := tb_of (tb_in3 _ (List.mem_of_getElem? (i := 29) (by decide +kernel))) rfl
theorem tb_549 : (Jvm.Cond.selects "ReedSets" ({ cls := "ReedSets", name := "mend", desc := "()I" } : Jvm.MethodName) ({ cls := "ReedSets", name := "mend", desc := "()I" } : Jvm.MethodName)) ∈ tb := tb_of (tb_in3 _ (List.mem_of_getElem? (i := 30) (by decide +kernel))) rfl
theorem tb_550 : (Jvm.Cond.code ({ cls := "ReedSets", name := "mend", desc := "()I" } : Jvm.MethodName) prog_1_method_20_code (1 : Nat) (Option.some Jvm.ClassFile.FieldType.int)) ∈ tb := tb_of (tb_in3 _ (List.mem_of_getElem? (i := 31) (by decide +kernel))) rfl
theorem tb_551 : (Jvm.Cond.methodLink "ReedSets" (179 : Nat) ({ cls := "ReedSets$Striped", name := "isLaid", desc := "()Z" } : Jvm.MethodName)) ∈ tb := tb_of (tb_in3 _ (List.mem_of_getElem? (i := 32) (by decide +kernel))) rfl
theorem tb_552 : (Jvm.Cond.instanceMethod ({ cls := "ReedSets$Striped", name := "isLaid", desc := "()Z" } : Jvm.MethodName)) ∈ tb := tb_of (tb_in3 _ (List.mem_of_getElem? (i := 33) (by decide +kernel))) rfl
theorem tb_553 : (Jvm.Cond.selects "ReedSets$Striped" ({ cls := "ReedSets$Striped", name := "isLaid", desc := "()Z" } : Jvm.MethodName) ({ cls := "ReedSets$Striped", name := "isLaid", desc := "()Z" } : Jvm.MethodName)) ∈ tb := tb_of (tb_in3 _ (List.mem_of_getElem? (i := 34) (by decide +kernel))) rfl
theorem tb_554 : (Jvm.Cond.code ({ cls := "ReedSets$Striped", name := "isLaid", desc := "()Z" } : Jvm.MethodName) prog_6_method_4_code (1 : Nat) (Option.some Jvm.ClassFile.FieldType.boolean)) ∈ tb := tb_of (tb_in3 _ (List.mem_of_getElem? (i := 35) (by decide +kernel))) rfl
theorem tb_555 : (Jvm.Cond.methodLink "ReedSets" (182 : Nat) ({ cls := "ReedSets$Striped", name := "mendAll", desc := "(LReedSets$Solver;)I" } : Jvm.MethodName)) ∈ tb := tb_of (tb_in3 _ (List.mem_of_getElem? (i := 36) (by decide +kernel))) rfl
theorem tb_556 : (Jvm.Cond.instanceMethod ({ cls := "ReedSets$Striped", name := "mendAll", desc := "(LReedSets$Solver;)I" } : Jvm.MethodName)) ∈ tb := tb_of (tb_in3 _ (List.mem_of_getElem? (i := 37) (by decide +kernel))) rfl
theorem tb_557 : (Jvm.Cond.selects "ReedSets$Striped" ({ cls := "ReedSets$Striped", name := "mendAll", desc := "(LReedSets$Solver;)I" } : Jvm.MethodName) ({ cls := "ReedSets$Striped", name := "mendAll", desc := "(LReedSets$Solver;)I" } : Jvm.MethodName)) ∈ tb := tb_of (tb_in3 _ (List.mem_of_getElem? (i := 38) (by decide +kernel))) rfl
theorem tb_558 : (Jvm.Cond.code ({ cls := "ReedSets$Striped", name := "mendAll", desc := "(LReedSets$Solver;)I" } : Jvm.MethodName) prog_6_method_12_code (5 : Nat) (Option.some Jvm.ClassFile.FieldType.int)) ∈ tb := tb_of (tb_in3 _ (List.mem_of_getElem? (i := 39) (by decide +kernel))) rfl
theorem tb_559 : (Jvm.Cond.methodLink "ReedSets$Striped" (78 : Nat) ({ cls := "ReedSets$Striped", name := "mendStripe", desc := "(ILReedSets$Solver;)I" } : Jvm.MethodName)) ∈ tb := tb_of (tb_in3 _ (List.mem_of_getElem? (i := 40) (by decide +kernel))) rfl
theorem tb_561 : (Jvm.Cond.instanceMethod ({ cls := "ReedSets$Striped", name := "mendStripe", desc := "(ILReedSets$Solver;)I" } : Jvm.MethodName)) ∈ tb := tb_of (tb_in3 _ (List.mem_of_getElem? (i := 42) (by decide +kernel))) rfl
theorem tb_562 : (Jvm.Cond.code ({ cls := "ReedSets$Striped", name := "mendStripe", desc := "(ILReedSets$Solver;)I" } : Jvm.MethodName) prog_6_method_13_code (6 : Nat) (Option.some Jvm.ClassFile.FieldType.int)) ∈ tb := tb_of (tb_in3 _ (List.mem_of_getElem? (i := 43) (by decide +kernel))) rfl
theorem tb_563 : (Jvm.Cond.methodLink "ReedSets$Striped" (82 : Nat) ({ cls := "ReedSets$Striped", name := "loadStripe", desc := "(I)V" } : Jvm.MethodName)) ∈ tb := tb_of (tb_in3 _ (List.mem_of_getElem? (i := 44) (by decide +kernel))) rfl
theorem tb_565 : (Jvm.Cond.instanceMethod ({ cls := "ReedSets$Striped", name := "loadStripe", desc := "(I)V" } : Jvm.MethodName)) ∈ tb := tb_of (tb_in3 _ (List.mem_of_getElem? (i := 46) (by decide +kernel))) rfl
theorem tb_566 : (Jvm.Cond.code ({ cls := "ReedSets$Striped", name := "loadStripe", desc := "(I)V" } : Jvm.MethodName) prog_6_method_10_code (4 : Nat) (Option.none : Option Jvm.ClassFile.FieldType)) ∈ tb := tb_of (tb_in3 _ (List.mem_of_getElem? (i := 47) (by decide +kernel))) rfl
theorem tb_567 : (Jvm.Cond.methodLink "ReedSets$Striped" (71 : Nat) ({ cls := "ReedSets$Word", name := "findAll", desc := "()V" } : Jvm.MethodName)) ∈ tb := tb_of (tb_in3 _ (List.mem_of_getElem? (i := 48) (by decide +kernel))) rfl
theorem tb_568 : (Jvm.Cond.methodLink "ReedSets$Striped" (74 : Nat) ({ cls := "ReedSets$Word", name := "take", desc := "(IIZ)V" } : Jvm.MethodName)) ∈ tb := tb_of (tb_in3 _ (List.mem_of_getElem? (i := 49) (by decide +kernel))) rfl
theorem tb_569 : (Jvm.Cond.instanceMethod ({ cls := "ReedSets$Word", name := "take", desc := "(IIZ)V" } : Jvm.MethodName)) ∈ tb := tb_of (tb_in3 _ (List.mem_of_getElem? (i := 50) (by decide +kernel))) rfl
theorem tb_570 : (Jvm.Cond.selects "ReedSets$Word" ({ cls := "ReedSets$Word", name := "take", desc := "(IIZ)V" } : Jvm.MethodName) ({ cls := "ReedSets$Word", name := "take", desc := "(IIZ)V" } : Jvm.MethodName)) ∈ tb := tb_of (tb_in3 _ (List.mem_of_getElem? (i := 51) (by decide +kernel))) rfl
theorem tb_571 : (Jvm.Cond.code ({ cls := "ReedSets$Word", name := "take", desc := "(IIZ)V" } : Jvm.MethodName) prog_7_method_8_code (4 : Nat) (Option.none : Option Jvm.ClassFile.FieldType)) ∈ tb := tb_of (tb_in3 _ (List.mem_of_getElem? (i := 52) (by decide +kernel))) rfl
theorem tb_572 : (Jvm.Cond.methodLink "ReedSets$Striped" (85 : Nat) ({ cls := "ReedSets$Solver", name := "solve", desc := "(LReedSets$Word;)I" } : Jvm.MethodName)) ∈ tb := tb_of (tb_in3 _ (List.mem_of_getElem? (i := 53) (by decide +kernel))) rfl
theorem tb_573 : (Jvm.Cond.methodLink "ReedSets$Striped" (91 : Nat) ({ cls := "ReedSets$Solver", name := "alters", desc := "(I)Z" } : Jvm.MethodName)) ∈ tb := tb_of (tb_in3 _ (List.mem_of_getElem? (i := 54) (by decide +kernel))) rfl
theorem tb_574 : (Jvm.Cond.instanceMethod ({ cls := "ReedSets$Solver", name := "alters", desc := "(I)Z" } : Jvm.MethodName)) ∈ tb := tb_of (tb_in3 _ (List.mem_of_getElem? (i := 55) (by decide +kernel))) rfl
theorem tb_575 : (Jvm.Cond.selects "ReedSets$Solver" ({ cls := "ReedSets$Solver", name := "alters", desc := "(I)Z" } : Jvm.MethodName) ({ cls := "ReedSets$Solver", name := "alters", desc := "(I)Z" } : Jvm.MethodName)) ∈ tb := tb_of (tb_in3 _ (List.mem_of_getElem? (i := 56) (by decide +kernel))) rfl
theorem tb_576 : (Jvm.Cond.code ({ cls := "ReedSets$Solver", name := "alters", desc := "(I)Z" } : Jvm.MethodName) prog_5_method_15_code (3 : Nat) (Option.some Jvm.ClassFile.FieldType.boolean)) ∈ tb := tb_of (tb_in3 _ (List.mem_of_getElem? (i := 57) (by decide +kernel))) rfl
theorem tb_577 : (Jvm.Cond.methodLink "ReedSets$Striped" (95 : Nat) ({ cls := "ReedSets$Solver", name := "settle", desc := "(LReedSets$Word;)V" } : Jvm.MethodName)) ∈ tb := tb_of (tb_in3 _ (List.mem_of_getElem? (i := 58) (by decide +kernel))) rfl
theorem tb_578 : (Jvm.Cond.methodLink "ReedSetsLaw" (94 : Nat) ({ cls := "ReedSets", name := "wrong", desc := "()I" } : Jvm.MethodName)) ∈ tb := tb_of (tb_in3 _ (List.mem_of_getElem? (i := 59) (by decide +kernel))) rfl
theorem tb_579 : (Jvm.Cond.instanceMethod ({ cls := "ReedSets", name := "wrong", desc := "()I" } : Jvm.MethodName)) ∈ tb := tb_of (tb_in3 _ (List.mem_of_getElem? (i := 60) (by decide +kernel))) rfl
theorem tb_580 : (Jvm.Cond.selects "ReedSets" ({ cls := "ReedSets", name := "wrong", desc := "()I" } : Jvm.MethodName) ({ cls := "ReedSets", name := "wrong", desc := "()I" } : Jvm.MethodName)) ∈ tb := tb_of (tb_in3 _ (List.mem_of_getElem? (i := 61) (by decide +kernel))) rfl
theorem tb_581 : (Jvm.Cond.code ({ cls := "ReedSets", name := "wrong", desc := "()I" } : Jvm.MethodName) prog_1_method_21_code (1 : Nat) (Option.some Jvm.ClassFile.FieldType.int)) ∈ tb := tb_of (tb_in3 _ (List.mem_of_getElem? (i := 62) (by decide +kernel))) rfl
theorem tb_582 : (Jvm.Cond.methodLink "ReedSets" (186 : Nat) ({ cls := "ReedSets$Striped", name := "countWrong", desc := "()I" } : Jvm.MethodName)) ∈ tb := tb_of (tb_in3 _ (List.mem_of_getElem? (i := 63) (by decide +kernel))) rfl
theorem tb_583 : (Jvm.Cond.instanceMethod ({ cls := "ReedSets$Striped", name := "countWrong", desc := "()I" } : Jvm.MethodName)) ∈ tb := tb_of (tb_in3 _ (List.mem_of_getElem? (i := 64) (by decide +kernel))) rfl
theorem tb_584 : (Jvm.Cond.selects "ReedSets$Striped" ({ cls := "ReedSets$Striped", name := "countWrong", desc := "()I" } : Jvm.MethodName) ({ cls := "ReedSets$Striped", name := "countWrong", desc := "()I" } : Jvm.MethodName)) ∈ tb := tb_of (tb_in3 _ (List.mem_of_getElem? (i := 65) (by decide +kernel))) rfl
theorem tb_585 : (Jvm.Cond.code ({ cls := "ReedSets$Striped", name := "countWrong", desc := "()I" } : Jvm.MethodName) prog_6_method_14_code (3 : Nat) (Option.some Jvm.ClassFile.FieldType.int)) ∈ tb := tb_of (tb_in3 _ (List.mem_of_getElem? (i := 66) (by decide +kernel))) rfl
theorem tb_586 : (Jvm.Cond.methodLink "ReedSetsLaw" (98 : Nat) ({ cls := "ReedSets", name := "shares", desc := "(II)I" } : Jvm.MethodName)) ∈ tb := tb_of (tb_in3 _ (List.mem_of_getElem? (i := 67) (by decide +kernel))) rfl
theorem tb_587 : (Jvm.Cond.instanceMethod ({ cls := "ReedSets", name := "shares", desc := "(II)I" } : Jvm.MethodName)) ∈ tb := tb_of (tb_in3 _ (List.mem_of_getElem? (i := 68) (by decide +kernel))) rfl
theorem tb_588 : (Jvm.Cond.selects "ReedSets" ({ cls := "ReedSets", name := "shares", desc := "(II)I" } : Jvm.MethodName) ({ cls := "ReedSets", name := "shares", desc := "(II)I" } : Jvm.MethodName)) ∈ tb := tb_of (tb_in3 _ (List.mem_of_getElem? (i := 69) (by decide +kernel))) rfl
theorem tb_589 : (Jvm.Cond.code ({ cls := "ReedSets", name := "shares", desc := "(II)I" } : Jvm.MethodName) prog_1_method_22_code (3 : Nat) (Option.some Jvm.ClassFile.FieldType.int)) ∈ tb := tb_of (tb_in3 _ (List.mem_of_getElem? (i := 70) (by decide +kernel))) rfl
theorem tb_590 : (Jvm.Cond.methodLink "ReedSets" (189 : Nat) ({ cls := "ReedSets$Sharing", name := "start", desc := "(II)V" } : Jvm.MethodName)) ∈ tb := tb_of (tb_in3 _ (List.mem_of_getElem? (i := 71) (by decide +kernel))) rfl
theorem tb_591 : (Jvm.Cond.methodLink "ReedSetsLaw" (102 : Nat) ({ cls := "ReedSets", name := "share", desc := "(III)I" } : Jvm.MethodName)) ∈ tb := tb_of (tb_in3 _ (List.mem_of_getElem? (i := 72) (by decide +kernel))) rfl
theorem tb_592 : (Jvm.Cond.instanceMethod ({ cls := "ReedSets", name := "share", desc := "(III)I" } : Jvm.MethodName)) ∈ tb := tb_of (tb_in3 _ (List.mem_of_getElem? (i := 73) (by decide +kernel))) rfl
theorem tb_593 : (Jvm.Cond.selects "ReedSets" ({ cls := "ReedSets", name := "share", desc := "(III)I" } : Jvm.MethodName) ({ cls := "ReedSets", name := "share", desc := "(III)I" } : Jvm.MethodName)) ∈ tb := tb_of (tb_in3 _ (List.mem_of_getElem? (i := 74) (by decide +kernel))) rfl
theorem tb_594 : (Jvm.Cond.code ({ cls := "ReedSets", name := "share", desc := "(III)I" } : Jvm.MethodName) prog_1_method_23_code (4 : Nat) (Option.some Jvm.ClassFile.FieldType.int)) ∈ tb := tb_of (tb_in3 _ (List.mem_of_getElem? (i := 75) (by decide +kernel))) rfl
theorem tb_595 : (Jvm.Cond.methodLink "ReedSets" (192 : Nat) ({ cls := "ReedSets$Sharing", name := "hasPlace", desc := "(I)Z" } : Jvm.MethodName)) ∈ tb := tb_of (tb_in3 _ (List.mem_of_getElem? (i := 76) (by decide +kernel))) rfl
theorem tb_596 : (Jvm.Cond.instanceMethod ({ cls := "ReedSets$Sharing", name := "hasPlace", desc := "(I)Z" } : Jvm.MethodName)) ∈ tb := tb_of (tb_in3 _ (List.mem_of_getElem? (i := 77) (by decide +kernel))) rfl
theorem tb_597 : (Jvm.Cond.selects "ReedSets$Sharing" ({ cls := "ReedSets$Sharing", name := "hasPlace", desc := "(I)Z" } : Jvm.MethodName) ({ cls := "ReedSets$Sharing", name := "hasPlace", desc := "(I)Z" } : Jvm.MethodName)) ∈ tb := tb_of (tb_in3 _ (List.mem_of_getElem? (i := 78) (by decide +kernel))) rfl
theorem tb_598 : (Jvm.Cond.code ({ cls := "ReedSets$Sharing", name := "hasPlace", desc := "(I)Z" } : Jvm.MethodName) prog_4_method_3_code (2 : Nat) (Option.some Jvm.ClassFile.FieldType.boolean)) ∈ tb := tb_of (tb_in3 _ (List.mem_of_getElem? (i := 79) (by decide +kernel))) rfl
theorem tb_599 : (Jvm.Cond.methodLink "ReedSets" (193 : Nat) ({ cls := "ReedSets$Sharing", name := "tell", desc := "(III)V" } : Jvm.MethodName)) ∈ tb := tb_of (tb_in3 _ (List.mem_of_getElem? (i := 80) (by decide +kernel))) rfl
theorem tb_600 : (Jvm.Cond.instanceMethod ({ cls := "ReedSets$Sharing", name := "tell", desc := "(III)V" } : Jvm.MethodName)) ∈ tb := tb_of (tb_in3 _ (List.mem_of_getElem? (i := 81) (by decide +kernel))) rfl
theorem tb_601 : (Jvm.Cond.selects "ReedSets$Sharing" ({ cls := "ReedSets$Sharing", name := "tell", desc := "(III)V" } : Jvm.MethodName) ({ cls := "ReedSets$Sharing", name := "tell", desc := "(III)V" } : Jvm.MethodName)) ∈ tb := tb_of (tb_in3 _ (List.mem_of_getElem? (i := 82) (by decide +kernel))) rfl
theorem tb_602 : (Jvm.Cond.code ({ cls := "ReedSets$Sharing", name := "tell", desc := "(III)V" } : Jvm.MethodName) prog_4_method_4_code (5 : Nat) (Option.none : Option Jvm.ClassFile.FieldType)) ∈ tb := tb_of (tb_in3 _ (List.mem_of_getElem? (i := 83) (by decide +kernel))) rfl
theorem tb_603 : (Jvm.Cond.methodLink "ReedSets$Sharing" (46 : Nat) ({ cls := "java/util/Arrays", name := "fill", desc := "([IIII)V" } : Jvm.MethodName)) ∈ tb := tb_of (tb_in3 _ (List.mem_of_getElem? (i := 84) (by decide +kernel))) rfl
theorem tb_604 : (Jvm.Cond.methodLink "ReedSetsLaw" (106 : Nat) ({ cls := "ReedSets", name := "drop", desc := "(I)I" } : Jvm.MethodName)) ∈ tb := tb_of (tb_in3 _ (List.mem_of_getElem? (i := 85) (by decide +kernel))) rfl
theorem tb_605 : (Jvm.Cond.instanceMethod ({ cls := "ReedSets", name := "drop", desc := "(I)I" } : Jvm.MethodName)) ∈ tb := tb_of (tb_in3 _ (List.mem_of_getElem? (i := 86) (by decide +kernel))) rfl
theorem tb_606 : (Jvm.Cond.selects "ReedSets" ({ cls := "ReedSets", name := "drop", desc := "(I)I" } : Jvm.MethodName) ({ cls := "ReedSets", name := "drop", desc := "(I)I" } : Jvm.MethodName)) ∈ tb := tb_of (tb_in3 _ (List.mem_of_getElem? (i := 87) (by decide +kernel))) rfl
theorem tb_607 : (Jvm.Cond.code ({ cls := "ReedSets", name := "drop", desc := "(I)I" } : Jvm.MethodName) prog_1_method_24_code (2 : Nat) (Option.some Jvm.ClassFile.FieldType.int)) ∈ tb := tb_of (tb_in3 _ (List.mem_of_getElem? (i := 88) (by decide +kernel))) rfl
theorem tb_608 : (Jvm.Cond.methodLink "ReedSetsLaw" (110 : Nat) ({ cls := "ReedSets", name := "made", desc := "(II)I" } : Jvm.MethodName)) ∈ tb := tb_of (tb_in3 _ (List.mem_of_getElem? (i := 89) (by decide +kernel))) rfl
theorem tb_609 : (Jvm.Cond.instanceMethod ({ cls := "ReedSets", name := "made", desc := "(II)I" } : Jvm.MethodName)) ∈ tb := tb_of (tb_in3 _ (List.mem_of_getElem? (i := 90) (by decide +kernel))) rfl
theorem tb_610 : (Jvm.Cond.selects "ReedSets" ({ cls := "ReedSets", name := "made", desc := "(II)I" } : Jvm.MethodName) ({ cls := "ReedSets", name := "made", desc := "(II)I" } : Jvm.MethodName)) ∈ tb := tb_of (tb_in3 _ (List.mem_of_getElem? (i := 91) (by decide +kernel))) rfl
theorem tb_611 : (Jvm.Cond.code ({ cls := "ReedSets", name := "made", desc := "(II)I" } : Jvm.MethodName) prog_1_method_25_code (3 : Nat) (Option.some Jvm.ClassFile.FieldType.int)) ∈ tb := tb_of (tb_in3 _ (List.mem_of_getElem? (i := 92) (by decide +kernel))) rfl
theorem tb_612 : (Jvm.Cond.methodLink "ReedSets" (200 : Nat) ({ cls := "ReedSets$Sharing", name := "chooseBase", desc := "(I)Z" } : Jvm.MethodName)) ∈ tb := tb_of (tb_in3 _ (List.mem_of_getElem? (i := 93) (by decide +kernel))) rfl
theorem tb_613 : (Jvm.Cond.instanceMethod ({ cls := "ReedSets$Sharing", name := "chooseBase", desc := "(I)Z" } : Jvm.MethodName)) ∈ tb := tb_of (tb_in3 _ (List.mem_of_getElem? (i := 94) (by decide +kernel))) rfl
theorem tb_614 : (Jvm.Cond.selects "ReedSets$Sharing" ({ cls := "ReedSets$Sharing", name := "chooseBase", desc := "(I)Z" } : Jvm.MethodName) ({ cls := "ReedSets$Sharing", name := "chooseBase", desc := "(I)Z" } : Jvm.MethodName)) ∈ tb := tb_of (tb_in3 _ (List.mem_of_getElem? (i := 95) (by decide +kernel))) rfl
theorem tb_615 : (Jvm.Cond.code ({ cls := "ReedSets$Sharing", name := "chooseBase", desc := "(I)Z" } : Jvm.MethodName) prog_4_method_5_code (4 : Nat) (Option.some Jvm.ClassFile.FieldType.boolean)) ∈ tb := tb_of (tb_in3 _ (List.mem_of_getElem? (i := 96) (by decide +kernel))) rfl
theorem tb_616 : (Jvm.Cond.methodLink "ReedSets$Sharing" (52 : Nat) ({ cls := "ReedSets$Sharing", name := "weighBase", desc := "()V" } : Jvm.MethodName)) ∈ tb := tb_of (tb_in3 _ (List.mem_of_getElem? (i := 97) (by decide +kernel))) rfl
theorem tb_618 : (Jvm.Cond.instanceMethod ({ cls := "ReedSets$Sharing", name := "weighBase", desc := "()V" } : Jvm.MethodName)) ∈ tb := tb_of (tb_in3 _ (List.mem_of_getElem? (i := 99) (by decide +kernel))) rfl
theorem tb_619 : (Jvm.Cond.code ({ cls := "ReedSets$Sharing", name := "weighBase", desc := "()V" } : Jvm.MethodName) prog_4_method_6_code (4 : Nat) (Option.none : Option Jvm.ClassFile.FieldType)) ∈ tb := tb_of (tb_in3 _ (List.mem_of_getElem? (i := 100) (by decide +kernel))) rfl
theorem tb_620 : (Jvm.Cond.methodLink "ReedSets$Sharing" (55 : Nat) ({ cls := "ReedSets$Field", name := "product", desc := "(II)I" } : Jvm.MethodName)) ∈ tb := tb_of (tb_in3 _ (List.mem_of_getElem? (i := 101) (by decide +kernel))) rfl
theorem tb_621 : (Jvm.Cond.methodLink "ReedSets$Sharing" (61 : Nat) ({ cls := "ReedSets$Field", name := "quotient", desc := "(II)I" } : Jvm.MethodName)) ∈ tb := tb_of (tb_in3 _ (List.mem_of_getElem? (i := 102) (by decide +kernel))) rfl
theorem tb_622 : (Jvm.Cond.methodLink "ReedSets" (203 : Nat) ({ cls := "ReedSets$Sharing", name := "aimAt", desc := "(I)V" } : Jvm.MethodName)) ∈ tb := tb_of (tb_in3 _ (List.mem_of_getElem? (i := 103) (by decide +kernel))) rfl
theorem tb_623 : (Jvm.Cond.instanceMethod ({ cls := "ReedSets$Sharing", name := "aimAt", desc := "(I)V" } : Jvm.MethodName)) ∈ tb := tb_of (tb_in3 _ (List.mem_of_getElem? (i := 104) (by decide +kernel))) rfl
theorem tb_624 : (Jvm.Cond.selects "ReedSets$Sharing" ({ cls := "ReedSets$Sharing", name := "aimAt", desc := "(I)V" } : Jvm.MethodName) ({ cls := "ReedSets$Sharing", name := "aimAt", desc := "(I)V" } : Jvm.MethodName)) ∈ tb := tb_of (tb_in3 _ (List.mem_of_getElem? (i := 105) (by decide +kernel))) rfl
theorem tb_625 : (Jvm.Cond.code ({ cls := "ReedSets$Sharing", name := "aimAt", desc := "(I)V" } : Jvm.MethodName) prog_4_method_7_code (4 : Nat) (Option.none : Option Jvm.ClassFile.FieldType)) ∈ tb := tb_of (tb_in3 _ (List.mem_of_getElem? (i := 106) (by decide +kernel))) rfl
theorem tb_626 : (Jvm.Cond.methodLink "ReedSets" (206 : Nat) ({ cls := "ReedSets$Sharing", name := "valueOf", desc := "(I)I" } : Jvm.MethodName)) ∈ tb := tb_of (tb_in3 _ (List.mem_of_getElem? (i := 107) (by decide +kernel))) rfl
theorem tb_627 : (Jvm.Cond.instanceMethod ({ cls := "ReedSets$Sharing", name := "valueOf", desc := "(I)I" } : Jvm.MethodName)) ∈ tb := tb_of (tb_in3 _ (List.mem_of_getElem? (i := 108) (by decide +kernel))) rfl
theorem tb_628 : (Jvm.Cond.selects "ReedSets$Sharing" ({ cls := "ReedSets$Sharing", name := "valueOf", desc := "(I)I" } : Jvm.MethodName) ({ cls := "ReedSets$Sharing", name := "valueOf", desc := "(I)I" } : Jvm.MethodName)) ∈ tb := tb_of (tb_in3 _ (List.mem_of_getElem? (i := 109) (by decide +kernel))) rfl
theorem tb_629 : (Jvm.Cond.code ({ cls := "ReedSets$Sharing", name := "valueOf", desc := "(I)I" } : Jvm.MethodName) prog_4_method_8_code (4 : Nat) (Option.some Jvm.ClassFile.FieldType.int)) ∈ tb := tb_of (tb_in3 _ (List.mem_of_getElem? (i := 110) (by decide +kernel))) rfl
theorem tb_630 : (Jvm.Cond.methodLink "ReedSetsLaw" (114 : Nat) ({ cls := "ReedSets", name := "apart", desc := "()I" } : Jvm.MethodName)) ∈ tb := tb_of (tb_in3 _ (List.mem_of_getElem? (i := 111) (by decide +kernel))) rfl
theorem tb_631 : (Jvm.Cond.instanceMethod ({ cls := "ReedSets", name := "apart", desc := "()I" } : Jvm.MethodName)) ∈ tb := tb_of (tb_in3 _ (List.mem_of_getElem? (i := 112) (by decide +kernel))) rfl
theorem tb_632 : (Jvm.Cond.selects "ReedSets" ({ cls := "ReedSets", name := "apart", desc := "()I" } : Jvm.MethodName) ({ cls := "ReedSets", name := "apart", desc := "()I" } : Jvm.MethodName)) ∈ tb := tb_of (tb_in3 _ (List.mem_of_getElem? (i := 113) (by decide +kernel))) rfl
theorem tb_633 : (Jvm.Cond.code ({ cls := "ReedSets", name := "apart", desc := "()I" } : Jvm.MethodName) prog_1_method_26_code (1 : Nat) (Option.some Jvm.ClassFile.FieldType.int)) ∈ tb := tb_of (tb_in3 _ (List.mem_of_getElem? (i := 114) (by decide +kernel))) rfl
theorem tb_634 : (Jvm.Cond.methodLink "ReedSets" (209 : Nat) ({ cls := "ReedSets$Sharing", name := "countApart", desc := "()I" } : Jvm.MethodName)) ∈ tb := tb_of (tb_in3 _ (List.mem_of_getElem? (i := 115) (by decide +kernel))) rfl
theorem tb_635 : (Jvm.Cond.instanceMethod ({ cls := "ReedSets$Sharing", name := "countApart", desc := "()I" } : Jvm.MethodName)) ∈ tb := tb_of (tb_in3 _ (List.mem_of_getElem? (i := 116) (by decide +kernel))) rfl
theorem tb_636 : (Jvm.Cond.selects "ReedSets$Sharing" ({ cls := "ReedSets$Sharing", name := "countApart", desc := "()I" } : Jvm.MethodName) ({ cls := "ReedSets$Sharing", name := "countApart", desc := "()I" } : Jvm.MethodName)) ∈ tb := tb_of (tb_in3 _ (List.mem_of_getElem? (i := 117) (by decide +kernel))) rfl
theorem tb_637 : (Jvm.Cond.code ({ cls := "ReedSets$Sharing", name := "countApart", desc := "()I" } : Jvm.MethodName) prog_4_method_10_code (3 : Nat) (Option.some Jvm.ClassFile.FieldType.int)) ∈ tb := tb_of (tb_in3 _ (List.mem_of_getElem? (i := 118) (by decide +kernel))) rfl
theorem tb_638 : (Jvm.Cond.methodLink "ReedSets$Sharing" (72 : Nat) ({ cls := "ReedSets$Sharing", name := "fits", desc := "(I)Z" } : Jvm.MethodName)) ∈ tb := tb_of (tb_in3 _ (List.mem_of_getElem? (i := 119) (by decide +kernel))) rfl
theorem tb_640 : (Jvm.Cond.instanceMethod ({ cls := "ReedSets$Sharing", name := "fits", desc := "(I)Z" } : Jvm.MethodName)) ∈ tb := tb_of (tb_in3 _ (List.mem_of_getElem? (i := 121) (by decide +kernel))) rfl
theorem tb_641 : (Jvm.Cond.code ({ cls := "ReedSets$Sharing", name := "fits", desc := "(I)Z" } : Jvm.MethodName) prog_4_method_9_code (3 : Nat) (Option.some Jvm.ClassFile.FieldType.boolean)) ∈ tb := tb_of (tb_in3 _ (List.mem_of_getElem? (i := 122) (by decide +kernel))) rfl
theorem tb_642 : (Jvm.Cond.methodLink "ReedSets$Sharing" (64 : Nat) ({ cls := "ReedSets$Sharing", name := "aimAt", desc := "(I)V" } : Jvm.MethodName)) ∈ tb := tb_of (tb_in3 _ (List.mem_of_getElem? (i := 123) (by decide +kernel))) rfl
theorem tb_643 : (Jvm.Cond.methodLink "ReedSets$Sharing" (68 : Nat) ({ cls := "ReedSets$Sharing", name := "valueOf", desc := "(I)I" } : Jvm.MethodName)) ∈ tb := tb_of (tb_in3 _ (List.mem_of_getElem? (i := 124) (by decide +kernel))) rfl
theorem tb_644 : (Jvm.Cond.methodLink "ReedSetsLaw" (118 : Nat) ({ cls := "ReedSets", name := "odd", desc := "()I" } : Jvm.MethodName)) ∈ tb := tb_of (tb_in3 _ (List.mem_of_getElem? (i := 125) (by decide +kernel))) rfl
theorem tb_645 : (Jvm.Cond.instanceMethod ({ cls := "ReedSets", name := "odd", desc := "()I" } : Jvm.MethodName)) ∈ tb := tb_of (tb_in3 _ (List.mem_of_getElem? (i := 126) (by decide +kernel))) rfl
theorem tb_646 : (Jvm.Cond.selects "ReedSets" ({ cls := "ReedSets", name := "odd", desc := "()I" } : Jvm.MethodName) ({ cls := "ReedSets", name := "odd", desc := "()I" } : Jvm.MethodName)) ∈ tb := tb_of (tb_in3 _ (List.mem_of_getElem? (i := 127) (by decide +kernel))) rfl
theorem tb_647 : (Jvm.Cond.code ({ cls := "ReedSets", name := "odd", desc := "()I" } : Jvm.MethodName) prog_1_method_27_code (1 : Nat) (Option.some Jvm.ClassFile.FieldType.int)) ∈ tb := tb_of (tb_in3 _ (List.mem_of_getElem? (i := 128) (by decide +kernel))) rfl
theorem tb_648 : (Jvm.Cond.methodLink "ReedSets" (212 : Nat) ({ cls := "ReedSets$Sharing", name := "findOdd", desc := "()I" } : Jvm.MethodName)) ∈ tb := tb_of (tb_in3 _ (List.mem_of_getElem? (i := 129) (by decide +kernel))) rfl
theorem tb_649 : (Jvm.Cond.instanceMethod ({ cls := "ReedSets$Sharing", name := "findOdd", desc := "()I" } : Jvm.MethodName)) ∈ tb := tb_of (tb_in3 _ (List.mem_of_getElem? (i := 130) (by decide +kernel))) rfl
theorem tb_650 : (Jvm.Cond.selects "ReedSets$Sharing" ({ cls := "ReedSets$Sharing", name := "findOdd", desc := "()I" } : Jvm.MethodName) ({ cls := "ReedSets$Sharing", name := "findOdd", desc := "()I" } : Jvm.MethodName)) ∈ tb := tb_of (tb_in3 _ (List.mem_of_getElem? (i := 131) (by decide +kernel))) rfl
theorem tb_651 : (Jvm.Cond.code ({ cls := "ReedSets$Sharing", name := "findOdd", desc := "()I" } : Jvm.MethodName) prog_4_method_11_code (4 : Nat) (Option.some Jvm.ClassFile.FieldType.int)) ∈ tb := tb_of (tb_in3 _ (List.mem_of_getElem? (i := 132) (by decide +kernel))) rfl
theorem tb_652 : (Jvm.Cond.methodLink "ReedSets$Sharing" (79 : Nat) ({ cls := "ReedSets$Sharing", name := "countApart", desc := "()I" } : Jvm.MethodName)) ∈ tb := tb_of (tb_in3 _ (List.mem_of_getElem? (i := 133) (by decide +kernel))) rfl
theorem tb_653 : (Jvm.Cond.methodLink "ReedSets$Sharing" (83 : Nat) ({ cls := "ReedSets$Sharing", name := "agreeWithout", desc := "(I)Z" } : Jvm.MethodName)) ∈ tb := tb_of (tb_in3 _ (List.mem_of_getElem? (i := 134) (by decide +kernel))) rfl
theorem tb_655 : (Jvm.Cond.instanceMethod ({ cls := "ReedSets$Sharing", name := "agreeWithout", desc := "(I)Z" } : Jvm.MethodName)) ∈ tb := tb_of (tb_in3 _ (List.mem_of_getElem? (i := 136) (by decide +kernel))) rfl
theorem tb_656 : (Jvm.Cond.code ({ cls := "ReedSets$Sharing", name := "agreeWithout", desc := "(I)Z" } : Jvm.MethodName) prog_4_method_12_code (3 : Nat) (Option.some Jvm.ClassFile.FieldType.boolean)) ∈ tb := tb_of (tb_in3 _ (List.mem_of_getElem? (i := 137) (by decide +kernel))) rfl
theorem tb_657 : (Jvm.Cond.methodLink "ReedSets$Sharing" (86 : Nat) ({ cls := "ReedSets$Sharing", name := "chooseBase", desc := "(I)Z" } : Jvm.MethodName)) ∈ tb := tb_of (tb_in3 _ (List.mem_of_getElem? (i := 138) (by decide +kernel))) rfl
theorem tb_661 : (Jvm.Cond.instanceMethod ({ cls := "ReedSetsModel", name := "<init>", desc := "()V" } : Jvm.MethodName)) ∈ tb := tb_of (tb_in3 _ (List.mem_of_getElem? (i := 142) (by decide +kernel))) rfl
theorem tb_662 : (Jvm.Cond.code ({ cls := "ReedSetsModel", name := "<init>", desc := "()V" } : Jvm.MethodName) prog_9_method_1_code (1 : Nat) (Option.none : Option Jvm.ClassFile.FieldType)) ∈ tb := tb_of (tb_in3 _ (List.mem_of_getElem? (i := 143) (by decide +kernel))) rfl
theorem tb_663 : (Jvm.Cond.methodLink "ReedSetsModel" (1 : Nat) ({ cls := "java/lang/Object", name := "<init>", desc := "()V" } : Jvm.MethodName)) ∈ tb := tb_of (tb_in3 _ (List.mem_of_getElem? (i := 144) (by decide +kernel))) rfl
theorem tb_664 : (Jvm.Cond.fieldLink "ReedSetsModel" (7 : Nat) "ReedSetsModel" "n" "I") ∈ tb := tb_of (tb_in3 _ (List.mem_of_getElem? (i := 145) (by decide +kernel))) rfl
theorem tb_665 : (Jvm.Cond.fieldLink "ReedSetsModel" (99 : Nat) "ReedSetsModel" "k" "I") ∈ tb := tb_of (tb_in3 _ (List.mem_of_getElem? (i := 146) (by decide +kernel))) rfl
theorem tb_666 : (Jvm.Cond.fieldLink "ReedSetsModel" (102 : Nat) "ReedSetsModel" "b" "I") ∈ tb := tb_of (tb_in3 _ (List.mem_of_getElem? (i := 147) (by decide +kernel))) rfl
theorem tb_667 : (Jvm.Cond.fieldLink "ReedSetsModel" (13 : Nat) "ReedSetsModel" "word" "[I") ∈ tb := tb_of (tb_in3 _ (List.mem_of_getElem? (i := 148) (by decide +kernel))) rfl
theorem tb_668 : (Jvm.Cond.fieldLink "ReedSetsModel" (17 : Nat) "ReedSetsModel" "lost" "[Z") ∈ tb := tb_of (tb_in3 _ (List.mem_of_getElem? (i := 149) (by decide +kernel))) rfl
theorem tb_669 : (Jvm.Cond.fieldLink "ReedSetsModel" (21 : Nat) "ReedSetsModel" "generators" "[I") ∈ tb := tb_of (tb_in3 _ (List.mem_of_getElem? (i := 150) (by decide +kernel))) rfl
theorem tb_670 : (Jvm.Cond.fieldLink "ReedSetsModel" (154 : Nat) "ReedSetsModel" "changes" "I") ∈ tb := tb_of (tb_in3 _ (List.mem_of_getElem? (i := 151) (by decide +kernel))) rfl
theorem tb_671 : (Jvm.Cond.fieldLink "ReedSetsModel" (24 : Nat) "ReedSetsModel" "changedPlaces" "[I") ∈ tb := tb_of (tb_in3 _ (List.mem_of_getElem? (i := 152) (by decide +kernel))) rfl
theorem tb_672 : (Jvm.Cond.fieldLink "ReedSetsModel" (27 : Nat) "ReedSetsModel" "changedBy" "[I") ∈ tb := tb_of (tb_in3 _ (List.mem_of_getElem? (i := 153) (by decide +kernel))) rfl
theorem tb_673 : (Jvm.Cond.fieldLink "ReedSetsModel" (30 : Nat) "ReedSetsModel" "work" "[I") ∈ tb := tb_of (tb_in3 _ (List.mem_of_getElem? (i := 154) (by decide +kernel))) rfl
theorem tb_674 : (Jvm.Cond.fieldLink "ReedSetsModel" (33 : Nat) "ReedSetsModel" "workLost" "[Z") ∈ tb := tb_of (tb_in3 _ (List.mem_of_getElem? (i := 155) (by decide +kernel))) rfl
theorem tb_675 : (Jvm.Cond.fieldLink "ReedSetsModel" (119 : Nat) "ReedSetsModel" "workSize" "I") ∈ tb := tb_of (tb_in3 _ (List.mem_of_getElem? (i := 156) (by decide +kernel))) rfl
theorem tb_676 : (Jvm.Cond.fieldLink "ReedSetsModel" (122 : Nat) "ReedSetsModel" "workRepairs" "I") ∈ tb := tb_of (tb_in3 _ (List.mem_of_getElem? (i := 157) (by decide +kernel))) rfl
theorem tb_677 : (Jvm.Cond.fieldLink "ReedSetsModel" (125 : Nat) "ReedSetsModel" "workFirst" "I") ∈ tb := tb_of (tb_in3 _ (List.mem_of_getElem? (i := 158) (by decide +kernel))) rfl
theorem tb_678 : (Jvm.Cond.fieldLink "ReedSetsModel" (36 : Nat) "ReedSetsModel" "sums" "[I") ∈ tb := tb_of (tb_in3 _ (List.mem_of_getElem? (i := 159) (by decide +kernel))) rfl
theorem tb_679 : (Jvm.Cond.fieldLink "ReedSetsModel" (39 : Nat) "ReedSetsModel" "rest" "[I") ∈ tb := tb_of (tb_in3 _ (List.mem_of_getElem? (i := 160) (by decide +kernel))) rfl
theorem tb_680 : (Jvm.Cond.fieldLink "ReedSetsModel" (42 : Nat) "ReedSetsModel" "spots" "[I") ∈ tb := tb_of (tb_in3 _ (List.mem_of_getElem? (i := 161) (by decide +kernel))) rfl
theorem tb_681 : (Jvm.Cond.fieldLink "ReedSetsModel" (147 : Nat) "ReedSetsModel" "spotCount" "I") ∈ tb := tb_of (tb_in3 _ (List.mem_of_getElem? (i := 162) (by decide +kernel))) rfl
theorem tb_682 : (Jvm.Cond.fieldLink "ReedSetsModel" (45 : Nat) "ReedSetsModel" "matrix" "[I") ∈ tb := tb_of (tb_in3 _ (List.mem_of_getElem? (i := 163) (by decide +kernel))) rfl
theorem tb_683 : (Jvm.Cond.fieldLink "ReedSetsModel" (48 : Nat) "ReedSetsModel" "answer" "[I") ∈ tb := tb_of (tb_in3 _ (List.mem_of_getElem? (i := 164) (by decide +kernel))) rfl
theorem tb_684 : (Jvm.Cond.fieldLink "ReedSetsModel" (51 : Nat) "ReedSetsModel" "block" "[I") ∈ tb := tb_of (tb_in3 _ (List.mem_of_getElem? (i := 165) (by decide +kernel))) rfl
theorem tb_685 : (Jvm.Cond.fieldLink "ReedSetsModel" (160 : Nat) "ReedSetsModel" "blockSize" "I") ∈ tb := tb_of (tb_in3 _ (List.mem_of_getElem? (i := 166) (by decide +kernel))) rfl
theorem tb_686 : (Jvm.Cond.fieldLink "ReedSetsModel" (163 : Nat) "ReedSetsModel" "laid" "Z") ∈ tb := tb_of (tb_in3 _ (List.mem_of_getElem? (i := 167) (by decide +kernel))) rfl
theorem tb_687 : (Jvm.Cond.fieldLink "ReedSetsModel" (167 : Nat) "ReedSetsModel" "stripes" "I") ∈ tb := tb_of (tb_in3 _ (List.mem_of_getElem? (i := 168) (by decide +kernel))) rfl
theorem tb_688 : (Jvm.Cond.fieldLink "ReedSetsModel" (173 : Nat) "ReedSetsModel" "longest" "I") ∈ tb := tb_of (tb_in3 _ (List.mem_of_getElem? (i := 169) (by decide +kernel))) rfl
theorem tb_689 : (Jvm.Cond.fieldLink "ReedSetsModel" (170 : Nat) "ReedSetsModel" "laidRepairs" "I") ∈ tb := tb_of (tb_in3 _ (List.mem_of_getElem? (i := 170) (by decide +kernel))) rfl
theorem tb_690 : (Jvm.Cond.fieldLink "ReedSetsModel" (176 : Nat) "ReedSetsModel" "laidFirst" "I") ∈ tb := tb_of (tb_in3 _ (List.mem_of_getElem? (i := 171) (by decide +kernel))) rfl
theorem tb_691 : (Jvm.Cond.fieldLink "ReedSetsModel" (54 : Nat) "ReedSetsModel" "sent" "[I") ∈ tb := tb_of (tb_in3 _ (List.mem_of_getElem? (i := 172) (by decide +kernel))) rfl
theorem tb_692 : (Jvm.Cond.fieldLink "ReedSetsModel" (57 : Nat) "ReedSetsModel" "asLaid" "[I") ∈ tb := tb_of (tb_in3 _ (List.mem_of_getElem? (i := 173) (by decide +kernel))) rfl
theorem tb_693 : (Jvm.Cond.fieldLink "ReedSetsModel" (60 : Nat) "ReedSetsModel" "sentLost" "[Z") ∈ tb := tb_of (tb_in3 _ (List.mem_of_getElem? (i := 174) (by decide +kernel))) rfl
theorem tb_694 : (Jvm.Cond.fieldLink "ReedSetsModel" (63 : Nat) "ReedSetsModel" "degree" "I") ∈ tb := tb_of (tb_in3 _ (List.mem_of_getElem? (i := 175) (by decide +kernel))) rfl
theorem tb_695 : (Jvm.Cond.fieldLink "ReedSetsModel" (66 : Nat) "ReedSetsModel" "wide" "I") ∈ tb := tb_of (tb_in3 _ (List.mem_of_getElem? (i := 176) (by decide +kernel))) rfl
theorem tb_696 : (Jvm.Cond.fieldLink "ReedSetsModel" (69 : Nat) "ReedSetsModel" "told" "[Z") ∈ tb := tb_of (tb_in3 _ (List.mem_of_getElem? (i := 177) (by decide +kernel))) rfl
theorem tb_697 : (Jvm.Cond.fieldLink "ReedSetsModel" (72 : Nat) "ReedSetsModel" "shares" "[I") ∈ tb := tb_of (tb_in3 _ (List.mem_of_getElem? (i := 178) (by decide +kernel))) rfl
theorem tb_698 : (Jvm.Cond.fieldLink "ReedSetsModel" (191 : Nat) "ReedSetsModel" "toldCount" "I") ∈ tb := tb_of (tb_in3 _ (List.mem_of_getElem? (i := 179) (by decide +kernel))) rfl
theorem tb_699 : (Jvm.Cond.fieldLink "ReedSetsModel" (75 : Nat) "ReedSetsModel" "used" "[I") ∈ tb := tb_of (tb_in3 _ (List.mem_of_getElem? (i := 180) (by decide +kernel))) rfl
theorem tb_700 : (Jvm.Cond.fieldLink "ReedSetsModel" (78 : Nat) "ReedSetsModel" "downs" "[I") ∈ tb := tb_of (tb_in3 _ (List.mem_of_getElem? (i := 181) (by decide +kernel))) rfl
theorem tb_701 : (Jvm.Cond.fieldLink "ReedSetsModel" (81 : Nat) "ReedSetsModel" "weights" "[I") ∈ tb := tb_of (tb_in3 _ (List.mem_of_getElem? (i := 182) (by decide +kernel))) rfl
theorem tb_702 : (Jvm.Cond.lays "ReedSetsModel" "ReedSetsModel" "n" "I") ∈ tb := tb_of (tb_in3 _ (List.mem_of_getElem? (i := 183) (by decide +kernel))) rfl
theorem tb_704 : (Jvm.Cond.lays "ReedSetsModel" "ReedSetsModel" "k" "I") ∈ tb := tb_of (tb_in3 _ (List.mem_of_getElem? (i := 185) (by decide +kernel))) rfl
theorem tb_706 : (Jvm.Cond.lays "ReedSetsModel" "ReedSetsModel" "b" "I") ∈ tb := tb_of (tb_in3 _ (List.mem_of_getElem? (i := 187) (by decide +kernel))) rfl
theorem tb_708 : (Jvm.Cond.laysFinal "ReedSetsModel" "ReedSetsModel" "word" "[I") ∈ tb := tb_of (tb_in3 _ (List.mem_of_getElem? (i := 189) (by decide +kernel))) rfl
theorem tb_710 : (Jvm.Cond.laysFinal "ReedSetsModel" "ReedSetsModel" "lost" "[Z") ∈ tb := tb_of (tb_in3 _ (List.mem_of_getElem? (i := 191) (by decide +kernel))) rfl
theorem tb_712 : (Jvm.Cond.laysFinal "ReedSetsModel" "ReedSetsModel" "generators" "[I") ∈ tb := tb_of (tb_in3 _ (List.mem_of_getElem? (i := 193) (by decide +kernel))) rfl
theorem tb_714 : (Jvm.Cond.lays "ReedSetsModel" "ReedSetsModel" "changes" "I") ∈ tb := tb_of (tb_in3 _ (List.mem_of_getElem? (i := 195) (by decide +kernel))) rfl
theorem tb_716 : (Jvm.Cond.laysFinal "ReedSetsModel" "ReedSetsModel" "changedPlaces" "[I") ∈ tb := tb_of (tb_in3 _ (List.mem_of_getElem? (i := 197) (by decide +kernel))) rfl
theorem tb_718 : (Jvm.Cond.laysFinal "ReedSetsModel" "ReedSetsModel" "changedBy" "[I") ∈ tb := tb_of (tb_in3 _ (List.mem_of_getElem? (i := 199) (by decide +kernel))) rfl
theorem tb_720 : (Jvm.Cond.laysFinal "ReedSetsModel" "ReedSetsModel" "work" "[I") ∈ tb := tb_of (tb_in3 _ (List.mem_of_getElem? (i := 201) (by decide +kernel))) rfl
theorem tb_722 : (Jvm.Cond.laysFinal "ReedSetsModel" "ReedSetsModel" "workLost" "[Z") ∈ tb := tb_of (tb_in3 _ (List.mem_of_getElem? (i := 203) (by decide +kernel))) rfl
theorem tb_724 : (Jvm.Cond.lays "ReedSetsModel" "ReedSetsModel" "workSize" "I") ∈ tb := tb_of (tb_in3 _ (List.mem_of_getElem? (i := 205) (by decide +kernel))) rfl
theorem tb_726 : (Jvm.Cond.lays "ReedSetsModel" "ReedSetsModel" "workRepairs" "I") ∈ tb := tb_of (tb_in3 _ (List.mem_of_getElem? (i := 207) (by decide +kernel))) rfl
theorem tb_728 : (Jvm.Cond.lays "ReedSetsModel" "ReedSetsModel" "workFirst" "I") ∈ tb := tb_of (tb_in3 _ (List.mem_of_getElem? (i := 209) (by decide +kernel))) rfl
theorem tb_730 : (Jvm.Cond.laysFinal "ReedSetsModel" "ReedSetsModel" "sums" "[I") ∈ tb := tb_of (tb_in3 _ (List.mem_of_getElem? (i := 211) (by decide +kernel))) rfl
theorem tb_732 : (Jvm.Cond.laysFinal "ReedSetsModel" "ReedSetsModel" "rest" "[I") ∈ tb := tb_of (tb_in3 _ (List.mem_of_getElem? (i := 213) (by decide +kernel))) rfl
theorem tb_734 : (Jvm.Cond.laysFinal "ReedSetsModel" "ReedSetsModel" "spots" "[I") ∈ tb := tb_of (tb_in3 _ (List.mem_of_getElem? (i := 215) (by decide +kernel))) rfl
theorem tb_736 : (Jvm.Cond.lays "ReedSetsModel" "ReedSetsModel" "spotCount" "I") ∈ tb := tb_of (tb_in3 _ (List.mem_of_getElem? (i := 217) (by decide +kernel))) rfl
theorem tb_738 : (Jvm.Cond.laysFinal "ReedSetsModel" "ReedSetsModel" "matrix" "[I") ∈ tb := tb_of (tb_in3 _ (List.mem_of_getElem? (i := 219) (by decide +kernel))) rfl
theorem tb_740 : (Jvm.Cond.laysFinal "ReedSetsModel" "ReedSetsModel" "answer" "[I") ∈ tb := tb_of (tb_in3 _ (List.mem_of_getElem? (i := 221) (by decide +kernel))) rfl
theorem tb_742 : (Jvm.Cond.laysFinal "ReedSetsModel" "ReedSetsModel" "block" "[I") ∈ tb := tb_of (tb_in3 _ (List.mem_of_getElem? (i := 223) (by decide +kernel))) rfl
theorem tb_744 : (Jvm.Cond.lays "ReedSetsModel" "ReedSetsModel" "blockSize" "I") ∈ tb := tb_of (tb_in3 _ (List.mem_of_getElem? (i := 225) (by decide +kernel))) rfl
theorem tb_746 : (Jvm.Cond.lays "ReedSetsModel" "ReedSetsModel" "laid" "Z") ∈ tb := tb_of (tb_in3 _ (List.mem_of_getElem? (i := 227) (by decide +kernel))) rfl
theorem tb_748 : (Jvm.Cond.lays "ReedSetsModel" "ReedSetsModel" "stripes" "I") ∈ tb := tb_of (tb_in3 _ (List.mem_of_getElem? (i := 229) (by decide +kernel))) rfl
theorem tb_750 : (Jvm.Cond.lays "ReedSetsModel" "ReedSetsModel" "longest" "I") ∈ tb := tb_of (tb_in3 _ (List.mem_of_getElem? (i := 231) (by decide +kernel))) rfl
theorem tb_752 : (Jvm.Cond.lays "ReedSetsModel" "ReedSetsModel" "laidRepairs" "I") ∈ tb := tb_of (tb_in3 _ (List.mem_of_getElem? (i := 233) (by decide +kernel))) rfl
theorem tb_754 : (Jvm.Cond.lays "ReedSetsModel" "ReedSetsModel" "laidFirst" "I") ∈ tb := tb_of (tb_in3 _ (List.mem_of_getElem? (i := 235) (by decide +kernel))) rfl
theorem tb_756 : (Jvm.Cond.laysFinal "ReedSetsModel" "ReedSetsModel" "sent" "[I") ∈ tb := tb_of (tb_in3 _ (List.mem_of_getElem? (i := 237) (by decide +kernel))) rfl
theorem tb_758 : (Jvm.Cond.laysFinal "ReedSetsModel" "ReedSetsModel" "asLaid" "[I") ∈ tb := tb_of (tb_in3 _ (List.mem_of_getElem? (i := 239) (by decide +kernel))) rfl
theorem tb_760 : (Jvm.Cond.laysFinal "ReedSetsModel" "ReedSetsModel" "sentLost" "[Z") ∈ tb := tb_of (tb_in4 _ (List.mem_of_getElem? (i := 1) (by decide +kernel))) rfl
theorem tb_762 : (Jvm.Cond.lays "ReedSetsModel" "ReedSetsModel" "degree" "I") ∈ tb := tb_of (tb_in4 _ (List.mem_of_getElem? (i := 3) (by decide +kernel))) rfl
theorem tb_764 : (Jvm.Cond.lays "ReedSetsModel" "ReedSetsModel" "wide" "I") ∈ tb := tb_of (tb_in4 _ (List.mem_of_getElem? (i := 5) (by decide +kernel))) rfl
theorem tb_766 : (Jvm.Cond.laysFinal "ReedSetsModel" "ReedSetsModel" "told" "[Z") ∈ tb := tb_of (tb_in4 _ (List.mem_of_getElem? (i := 7) (by decide +kernel))) rfl
theorem tb_768 : (Jvm.Cond.laysFinal "ReedSetsModel" "ReedSetsModel" "shares" "[I") ∈ tb := tb_of (tb_in4 _ (List.mem_of_getElem? (i := 9) (by decide +kernel))) rfl
theorem tb_770 : (Jvm.Cond.lays "ReedSetsModel" "ReedSetsModel" "toldCount" "I") ∈ tb := tb_of (tb_in4 _ (List.mem_of_getElem? (i := 11) (by decide +kernel))) rfl
theorem tb_772 : (Jvm.Cond.laysFinal "ReedSetsModel" "ReedSetsModel" "used" "[I") ∈ tb := tb_of (tb_in4 _ (List.mem_of_getElem? (i := 13) (by decide +kernel))) rfl
theorem tb_774 : (Jvm.Cond.laysFinal "ReedSetsModel" "ReedSetsModel" "downs" "[I") ∈ tb := tb_of (tb_in4 _ (List.mem_of_getElem? (i := 15) (by decide +kernel))) rfl
theorem tb_776 : (Jvm.Cond.laysFinal "ReedSetsModel" "ReedSetsModel" "weights" "[I") ∈ tb := tb_of (tb_in4 _ (List.mem_of_getElem? (i := 17) (by decide +kernel))) rfl
theorem tb_779 : (Jvm.Cond.methodLink "ReedSetsLaw" (17 : Nat) ({ cls := "ReedSetsModel", name := "times", desc := "(II)I" } : Jvm.MethodName)) ∈ tb := tb_of (tb_in4 _ (List.mem_of_getElem? (i := 20) (by decide +kernel))) rfl
theorem tb_780 : (Jvm.Cond.instanceMethod ({ cls := "ReedSetsModel", name := "times", desc := "(II)I" } : Jvm.MethodName)) ∈ tb := tb_of (tb_in4 _ (List.mem_of_getElem? (i := 21) (by decide +kernel))) rfl
theorem tb_781 : (Jvm.Cond.selects "ReedSetsModel" ({ cls := "ReedSetsModel", name := "times", desc := "(II)I" } : Jvm.MethodName) ({ cls := "ReedSetsModel", name := "times", desc := "(II)I" } : Jvm.MethodName)) ∈ tb := tb_of (tb_in4 _ (List.mem_of_getElem? (i := 22) (by decide +kernel))) rfl
theorem tb_782 : (Jvm.Cond.code ({ cls := "ReedSetsModel", name := "times", desc := "(II)I" } : Jvm.MethodName) prog_9_method_6_code (3 : Nat) (Option.some Jvm.ClassFile.FieldType.int)) ∈ tb := tb_of (tb_in4 _ (List.mem_of_getElem? (i := 23) (by decide +kernel))) rfl
theorem tb_783 : (Jvm.Cond.methodLink "ReedSetsModel" (91 : Nat) ({ cls := "ReedSetsModel", name := "isByte", desc := "(I)Z" } : Jvm.MethodName)) ∈ tb := tb_of (tb_in4 _ (List.mem_of_getElem? (i := 24) (by decide +kernel))) rfl
theorem tb_784 : (Jvm.Cond.static ({ cls := "ReedSetsModel", name := "isByte", desc := "(I)Z" } : Jvm.MethodName)) ∈ tb := tb_of (tb_in4 _ (List.mem_of_getElem? (i := 25) (by decide +kernel))) rfl
theorem tb_785 : (Jvm.Cond.code ({ cls := "ReedSetsModel", name := "isByte", desc := "(I)Z" } : Jvm.MethodName) prog_9_method_2_code (1 : Nat) (Option.some Jvm.ClassFile.FieldType.boolean)) ∈ tb := tb_of (tb_in4 _ (List.mem_of_getElem? (i := 26) (by decide +kernel))) rfl
theorem tb_786 : (Jvm.Cond.methodLink "ReedSetsModel" (84 : Nat) ({ cls := "ReedSetsModel", name := "by", desc := "(II)I" } : Jvm.MethodName)) ∈ tb := tb_of (tb_in4 _ (List.mem_of_getElem? (i := 27) (by decide +kernel))) rfl
theorem tb_787 : (Jvm.Cond.static ({ cls := "ReedSetsModel", name := "by", desc := "(II)I" } : Jvm.MethodName)) ∈ tb := tb_of (tb_in4 _ (List.mem_of_getElem? (i := 28) (by decide +kernel))) rfl
theorem tb_788 : (Jvm.Cond.code ({ cls := "ReedSetsModel", name := "by", desc := "(II)I" } : Jvm.MethodName) prog_9_method_3_code (5 : Nat) (Option.some Jvm.ClassFile.FieldType.int)) ∈ tb := tb_of (tb_in4 _ (List.mem_of_getElem? (i := 29) (by decide +kernel))) rfl
theorem tb_789 : (Jvm.Cond.methodLink "ReedSetsLaw" (21 : Nat) ({ cls := "ReedSetsModel", name := "over", desc := "(II)I" } : Jvm.MethodName)) ∈ tb := tb_of (tb_in4 _ (List.mem_of_getElem? (i := 30) (by decide +kernel))) rfl
theorem tb_790 : (Jvm.Cond.instanceMethod ({ cls := "ReedSetsModel", name := "over", desc := "(II)I" } : Jvm.MethodName)) ∈ tb := tb_of (tb_in4 _ (List.mem_of_getElem? (i := 31) (by decide +kernel))) rfl
theorem tb_791 : (Jvm.Cond.selects "ReedSetsModel" ({ cls := "ReedSetsModel", name := "over", desc := "(II)I" } : Jvm.MethodName) ({ cls := "ReedSetsModel", name := "over", desc := "(II)I" } : Jvm.MethodName)) ∈ tb := tb_of (tb_in4 _ (List.mem_of_getElem? (i := 32) (by decide +kernel))) rfl
theorem tb_792 : (Jvm.Cond.code ({ cls := "ReedSetsModel", name := "over", desc := "(II)I" } : Jvm.MethodName) prog_9_method_7_code (3 : Nat) (Option.some Jvm.ClassFile.FieldType.int)) ∈ tb := tb_of (tb_in4 _ (List.mem_of_getElem? (i := 33) (by decide +kernel))) rfl
theorem tb_793 : (Jvm.Cond.methodLink "ReedSetsModel" (95 : Nat) ({ cls := "ReedSetsModel", name := "inverse", desc := "(I)I" } : Jvm.MethodName)) ∈ tb := tb_of (tb_in4 _ (List.mem_of_getElem? (i := 34) (by decide +kernel))) rfl
theorem tb_794 : (Jvm.Cond.static ({ cls := "ReedSetsModel", name := "inverse", desc := "(I)I" } : Jvm.MethodName)) ∈ tb := tb_of (tb_in4 _ (List.mem_of_getElem? (i := 35) (by decide +kernel))) rfl
theorem tb_795 : (Jvm.Cond.code ({ cls := "ReedSetsModel", name := "inverse", desc := "(I)I" } : Jvm.MethodName) prog_9_method_5_code (1 : Nat) (Option.some Jvm.ClassFile.FieldType.int)) ∈ tb := tb_of (tb_in4 _ (List.mem_of_getElem? (i := 36) (by decide +kernel))) rfl
theorem tb_796 : (Jvm.Cond.methodLink "ReedSetsModel" (88 : Nat) ({ cls := "ReedSetsModel", name := "raised", desc := "(II)I" } : Jvm.MethodName)) ∈ tb := tb_of (tb_in4 _ (List.mem_of_getElem? (i := 37) (by decide +kernel))) rfl
theorem tb_797 : (Jvm.Cond.static ({ cls := "ReedSetsModel", name := "raised", desc := "(II)I" } : Jvm.MethodName)) ∈ tb := tb_of (tb_in4 _ (List.mem_of_getElem? (i := 38) (by decide +kernel))) rfl
theorem tb_798 : (Jvm.Cond.code ({ cls := "ReedSetsModel", name := "raised", desc := "(II)I" } : Jvm.MethodName) prog_9_method_4_code (5 : Nat) (Option.some Jvm.ClassFile.FieldType.int)) ∈ tb := tb_of (tb_in4 _ (List.mem_of_getElem? (i := 39) (by decide +kernel))) rfl
theorem tb_799 : (Jvm.Cond.methodLink "ReedSetsLaw" (25 : Nat) ({ cls := "ReedSetsModel", name := "power", desc := "(II)I" } : Jvm.MethodName)) ∈ tb := tb_of (tb_in4 _ (List.mem_of_getElem? (i := 40) (by decide +kernel))) rfl
theorem tb_800 : (Jvm.Cond.instanceMethod ({ cls := "ReedSetsModel", name := "power", desc := "(II)I" } : Jvm.MethodName)) ∈ tb := tb_of (tb_in4 _ (List.mem_of_getElem? (i := 41) (by decide +kernel))) rfl
theorem tb_801 : (Jvm.Cond.selects "ReedSetsModel" ({ cls := "ReedSetsModel", name := "power", desc := "(II)I" } : Jvm.MethodName) ({ cls := "ReedSetsModel", name := "power", desc := "(II)I" } : Jvm.MethodName)) ∈ tb := tb_of (tb_in4 _ (List.mem_of_getElem? (i := 42) (by decide +kernel))) rfl
theorem tb_802 : (Jvm.Cond.code ({ cls := "ReedSetsModel", name := "power", desc := "(II)I" } : Jvm.MethodName) prog_9_method_8_code (4 : Nat) (Option.some Jvm.ClassFile.FieldType.int)) ∈ tb := tb_of (tb_in4 _ (List.mem_of_getElem? (i := 43) (by decide +kernel))) rfl
theorem tb_803 : (Jvm.Cond.methodLink "ReedSetsLaw" (30 : Nat) ({ cls := "ReedSetsModel", name := "log", desc := "(I)I" } : Jvm.MethodName)) ∈ tb := tb_of (tb_in4 _ (List.mem_of_getElem? (i := 44) (by decide +kernel))) rfl
theorem tb_804 : (Jvm.Cond.instanceMethod ({ cls := "ReedSetsModel", name := "log", desc := "(I)I" } : Jvm.MethodName)) ∈ tb := tb_of (tb_in4 _ (List.mem_of_getElem? (i := 45) (by decide +kernel))) rfl
theorem tb_805 : (Jvm.Cond.selects "ReedSetsModel" ({ cls := "ReedSetsModel", name := "log", desc := "(I)I" } : Jvm.MethodName) ({ cls := "ReedSetsModel", name := "log", desc := "(I)I" } : Jvm.MethodName)) ∈ tb := tb_of (tb_in4 _ (List.mem_of_getElem? (i := 46) (by decide +kernel))) rfl
theorem tb_806 : (Jvm.Cond.code ({ cls := "ReedSetsModel", name := "log", desc := "(I)I" } : Jvm.MethodName) prog_9_method_9_code (4 : Nat) (Option.some Jvm.ClassFile.FieldType.int)) ∈ tb := tb_of (tb_in4 _ (List.mem_of_getElem? (i := 47) (by decide +kernel))) rfl
theorem tb_807 : (Jvm.Cond.methodLink "ReedSetsLaw" (35 : Nat) ({ cls := "ReedSetsModel", name := "code", desc := "(III)I" } : Jvm.MethodName)) ∈ tb := tb_of (tb_in4 _ (List.mem_of_getElem? (i := 48) (by decide +kernel))) rfl
theorem tb_808 : (Jvm.Cond.instanceMethod ({ cls := "ReedSetsModel", name := "code", desc := "(III)I" } : Jvm.MethodName)) ∈ tb := tb_of (tb_in4 _ (List.mem_of_getElem? (i := 49) (by decide +kernel))) rfl
theorem tb_809 : (Jvm.Cond.selects "ReedSetsModel" ({ cls := "ReedSetsModel", name := "code", desc := "(III)I" } : Jvm.MethodName) ({ cls := "ReedSetsModel", name := "code", desc := "(III)I" } : Jvm.MethodName)) ∈ tb := tb_of (tb_in4 _ (List.mem_of_getElem? (i := 50) (by decide +kernel))) rfl
theorem tb_810 : (Jvm.Cond.code ({ cls := "ReedSetsModel", name := "code", desc := "(III)I" } : Jvm.MethodName) prog_9_method_11_code (5 : Nat) (Option.some Jvm.ClassFile.FieldType.int)) ∈ tb := tb_of (tb_in4 _ (List.mem_of_getElem? (i := 51) (by decide +kernel))) rfl
theorem tb_811 : (Jvm.Cond.methodLink "ReedSetsLaw" (39 : Nat) ({ cls := "ReedSetsModel", name := "generator", desc := "(I)I" } : Jvm.MethodName)) ∈ tb := tb_of (tb_in4 _ (List.mem_of_getElem? (i := 52) (by decide +kernel))) rfl
theorem tb_812 : (Jvm.Cond.instanceMethod ({ cls := "ReedSetsModel", name := "generator", desc := "(I)I" } : Jvm.MethodName)) ∈ tb := tb_of (tb_in4 _ (List.mem_of_getElem? (i := 53) (by decide +kernel))) rfl
theorem tb_813 : (Jvm.Cond.selects "ReedSetsModel" ({ cls := "ReedSetsModel", name := "generator", desc := "(I)I" } : Jvm.MethodName) ({ cls := "ReedSetsModel", name := "generator", desc := "(I)I" } : Jvm.MethodName)) ∈ tb := tb_of (tb_in4 _ (List.mem_of_getElem? (i := 54) (by decide +kernel))) rfl
theorem tb_814 : (Jvm.Cond.code ({ cls := "ReedSetsModel", name := "generator", desc := "(I)I" } : Jvm.MethodName) prog_9_method_13_code (2 : Nat) (Option.some Jvm.ClassFile.FieldType.int)) ∈ tb := tb_of (tb_in4 _ (List.mem_of_getElem? (i := 55) (by decide +kernel))) rfl
theorem tb_815 : (Jvm.Cond.methodLink "ReedSetsModel" (108 : Nat) ({ cls := "ReedSetsModel", name := "makeGenerator", desc := "(II)V" } : Jvm.MethodName)) ∈ tb := tb_of (tb_in4 _ (List.mem_of_getElem? (i := 56) (by decide +kernel))) rfl
theorem tb_817 : (Jvm.Cond.instanceMethod ({ cls := "ReedSetsModel", name := "makeGenerator", desc := "(II)V" } : Jvm.MethodName)) ∈ tb := tb_of (tb_in4 _ (List.mem_of_getElem? (i := 58) (by decide +kernel))) rfl
theorem tb_818 : (Jvm.Cond.code ({ cls := "ReedSetsModel", name := "makeGenerator", desc := "(II)V" } : Jvm.MethodName) prog_9_method_12_code (6 : Nat) (Option.none : Option Jvm.ClassFile.FieldType)) ∈ tb := tb_of (tb_in4 _ (List.mem_of_getElem? (i := 59) (by decide +kernel))) rfl
theorem tb_819 : (Jvm.Cond.methodLink "ReedSetsModel" (105 : Nat) ({ cls := "ReedSetsModel", name := "root", desc := "(I)I" } : Jvm.MethodName)) ∈ tb := tb_of (tb_in4 _ (List.mem_of_getElem? (i := 60) (by decide +kernel))) rfl
theorem tb_820 : (Jvm.Cond.static ({ cls := "ReedSetsModel", name := "root", desc := "(I)I" } : Jvm.MethodName)) ∈ tb := tb_of (tb_in4 _ (List.mem_of_getElem? (i := 61) (by decide +kernel))) rfl
theorem tb_821 : (Jvm.Cond.code ({ cls := "ReedSetsModel", name := "root", desc := "(I)I" } : Jvm.MethodName) prog_9_method_10_code (1 : Nat) (Option.some Jvm.ClassFile.FieldType.int)) ∈ tb := tb_of (tb_in4 _ (List.mem_of_getElem? (i := 62) (by decide +kernel))) rfl
theorem tb_822 : (Jvm.Cond.methodLink "ReedSetsLaw" (43 : Nat) ({ cls := "ReedSetsModel", name := "put", desc := "(II)I" } : Jvm.MethodName)) ∈ tb := tb_of (tb_in4 _ (List.mem_of_getElem? (i := 63) (by decide +kernel))) rfl
theorem tb_823 : (Jvm.Cond.instanceMethod ({ cls := "ReedSetsModel", name := "put", desc := "(II)I" } : Jvm.MethodName)) ∈ tb := tb_of (tb_in4 _ (List.mem_of_getElem? (i := 64) (by decide +kernel))) rfl
theorem tb_824 : (Jvm.Cond.selects "ReedSetsModel" ({ cls := "ReedSetsModel", name := "put", desc := "(II)I" } : Jvm.MethodName) ({ cls := "ReedSetsModel", name := "put", desc := "(II)I" } : Jvm.MethodName)) ∈ tb := tb_of (tb_in4 _ (List.mem_of_getElem? (i := 65) (by decide +kernel))) rfl
theorem tb_825 : (Jvm.Cond.code ({ cls := "ReedSetsModel", name := "put", desc := "(II)I" } : Jvm.MethodName) prog_9_method_15_code (4 : Nat) (Option.some Jvm.ClassFile.FieldType.int)) ∈ tb := tb_of (tb_in4 _ (List.mem_of_getElem? (i := 66) (by decide +kernel))) rfl
theorem tb_826 : (Jvm.Cond.methodLink "ReedSetsModel" (112 : Nat) ({ cls := "ReedSetsModel", name := "isPlace", desc := "(I)Z" } : Jvm.MethodName)) ∈ tb := tb_of (tb_in4 _ (List.mem_of_getElem? (i := 67) (by decide +kernel))) rfl
theorem tb_828 : (Jvm.Cond.instanceMethod ({ cls := "ReedSetsModel", name := "isPlace", desc := "(I)Z" } : Jvm.MethodName)) ∈ tb := tb_of (tb_in4 _ (List.mem_of_getElem? (i := 69) (by decide +kernel))) rfl
theorem tb_829 : (Jvm.Cond.code ({ cls := "ReedSetsModel", name := "isPlace", desc := "(I)Z" } : Jvm.MethodName) prog_9_method_14_code (2 : Nat) (Option.some Jvm.ClassFile.FieldType.boolean)) ∈ tb := tb_of (tb_in4 _ (List.mem_of_getElem? (i := 70) (by decide +kernel))) rfl
theorem tb_830 : (Jvm.Cond.methodLink "ReedSetsLaw" (48 : Nat) ({ cls := "ReedSetsModel", name := "encode", desc := "()I" } : Jvm.MethodName)) ∈ tb := tb_of (tb_in4 _ (List.mem_of_getElem? (i := 71) (by decide +kernel))) rfl
theorem tb_831 : (Jvm.Cond.instanceMethod ({ cls := "ReedSetsModel", name := "encode", desc := "()I" } : Jvm.MethodName)) ∈ tb := tb_of (tb_in4 _ (List.mem_of_getElem? (i := 72) (by decide +kernel))) rfl
theorem tb_832 : (Jvm.Cond.selects "ReedSetsModel" ({ cls := "ReedSetsModel", name := "encode", desc := "()I" } : Jvm.MethodName) ({ cls := "ReedSetsModel", name := "encode", desc := "()I" } : Jvm.MethodName)) ∈ tb := tb_of (tb_in4 _ (List.mem_of_getElem? (i := 73) (by decide +kernel))) rfl
theorem tb_833 : (Jvm.Cond.code ({ cls := "ReedSetsModel", name := "encode", desc := "()I" } : Jvm.MethodName) prog_9_method_17_code (2 : Nat) (Option.some Jvm.ClassFile.FieldType.int)) ∈ tb := tb_of (tb_in4 _ (List.mem_of_getElem? (i := 74) (by decide +kernel))) rfl
theorem tb_834 : (Jvm.Cond.methodLink "ReedSetsModel" (115 : Nat) ({ cls := "ReedSetsModel", name := "encodeWork", desc := "(III)V" } : Jvm.MethodName)) ∈ tb := tb_of (tb_in4 _ (List.mem_of_getElem? (i := 75) (by decide +kernel))) rfl
theorem tb_836 : (Jvm.Cond.instanceMethod ({ cls := "ReedSetsModel", name := "encodeWork", desc := "(III)V" } : Jvm.MethodName)) ∈ tb := tb_of (tb_in4 _ (List.mem_of_getElem? (i := 77) (by decide +kernel))) rfl
theorem tb_837 : (Jvm.Cond.code ({ cls := "ReedSetsModel", name := "encodeWork", desc := "(III)V" } : Jvm.MethodName) prog_9_method_16_code (8 : Nat) (Option.none : Option Jvm.ClassFile.FieldType)) ∈ tb := tb_of (tb_in4 _ (List.mem_of_getElem? (i := 78) (by decide +kernel))) rfl
theorem tb_838 : (Jvm.Cond.methodLink "ReedSetsLaw" (52 : Nat) ({ cls := "ReedSetsModel", name := "at", desc := "(I)I" } : Jvm.MethodName)) ∈ tb := tb_of (tb_in4 _ (List.mem_of_getElem? (i := 79) (by decide +kernel))) rfl
theorem tb_839 : (Jvm.Cond.instanceMethod ({ cls := "ReedSetsModel", name := "at", desc := "(I)I" } : Jvm.MethodName)) ∈ tb := tb_of (tb_in4 _ (List.mem_of_getElem? (i := 80) (by decide +kernel))) rfl
theorem tb_840 : (Jvm.Cond.selects "ReedSetsModel" ({ cls := "ReedSetsModel", name := "at", desc := "(I)I" } : Jvm.MethodName) ({ cls := "ReedSetsModel", name := "at", desc := "(I)I" } : Jvm.MethodName)) ∈ tb := tb_of (tb_in4 _ (List.mem_of_getElem? (i := 81) (by decide +kernel))) rfl
theorem tb_841 : (Jvm.Cond.code ({ cls := "ReedSetsModel", name := "at", desc := "(I)I" } : Jvm.MethodName) prog_9_method_18_code (2 : Nat) (Option.some Jvm.ClassFile.FieldType.int)) ∈ tb := tb_of (tb_in4 _ (List.mem_of_getElem? (i := 82) (by decide +kernel))) rfl
theorem tb_842 : (Jvm.Cond.methodLink "ReedSetsLaw" (56 : Nat) ({ cls := "ReedSetsModel", name := "lose", desc := "(I)I" } : Jvm.MethodName)) ∈ tb := tb_of (tb_in4 _ (List.mem_of_getElem? (i := 83) (by decide +kernel))) rfl
theorem tb_843 : (Jvm.Cond.instanceMethod ({ cls := "ReedSetsModel", name := "lose", desc := "(I)I" } : Jvm.MethodName)) ∈ tb := tb_of (tb_in4 _ (List.mem_of_getElem? (i := 84) (by decide +kernel))) rfl
theorem tb_844 : (Jvm.Cond.selects "ReedSetsModel" ({ cls := "ReedSetsModel", name := "lose", desc := "(I)I" } : Jvm.MethodName) ({ cls := "ReedSetsModel", name := "lose", desc := "(I)I" } : Jvm.MethodName)) ∈ tb := tb_of (tb_in4 _ (List.mem_of_getElem? (i := 85) (by decide +kernel))) rfl
theorem tb_845 : (Jvm.Cond.code ({ cls := "ReedSetsModel", name := "lose", desc := "(I)I" } : Jvm.MethodName) prog_9_method_19_code (4 : Nat) (Option.some Jvm.ClassFile.FieldType.int)) ∈ tb := tb_of (tb_in4 _ (List.mem_of_getElem? (i := 86) (by decide +kernel))) rfl
theorem tb_846 : (Jvm.Cond.methodLink "ReedSetsLaw" (60 : Nat) ({ cls := "ReedSetsModel", name := "syndrome", desc := "(I)I" } : Jvm.MethodName)) ∈ tb := tb_of (tb_in4 _ (List.mem_of_getElem? (i := 87) (by decide +kernel))) rfl
theorem tb_847 : (Jvm.Cond.instanceMethod ({ cls := "ReedSetsModel", name := "syndrome", desc := "(I)I" } : Jvm.MethodName)) ∈ tb := tb_of (tb_in4 _ (List.mem_of_getElem? (i := 88) (by decide +kernel))) rfl
theorem tb_848 : (Jvm.Cond.selects "ReedSetsModel" ({ cls := "ReedSetsModel", name := "syndrome", desc := "(I)I" } : Jvm.MethodName) ({ cls := "ReedSetsModel", name := "syndrome", desc := "(I)I" } : Jvm.MethodName)) ∈ tb := tb_of (tb_in4 _ (List.mem_of_getElem? (i := 89) (by decide +kernel))) rfl
theorem tb_849 : (Jvm.Cond.code ({ cls := "ReedSetsModel", name := "syndrome", desc := "(I)I" } : Jvm.MethodName) prog_9_method_22_code (2 : Nat) (Option.some Jvm.ClassFile.FieldType.int)) ∈ tb := tb_of (tb_in4 _ (List.mem_of_getElem? (i := 90) (by decide +kernel))) rfl
theorem tb_850 : (Jvm.Cond.methodLink "ReedSetsModel" (128 : Nat) ({ cls := "ReedSetsModel", name := "bringWord", desc := "()V" } : Jvm.MethodName)) ∈ tb := tb_of (tb_in4 _ (List.mem_of_getElem? (i := 91) (by decide +kernel))) rfl
theorem tb_852 : (Jvm.Cond.instanceMethod ({ cls := "ReedSetsModel", name := "bringWord", desc := "()V" } : Jvm.MethodName)) ∈ tb := tb_of (tb_in4 _ (List.mem_of_getElem? (i := 93) (by decide +kernel))) rfl
theorem tb_853 : (Jvm.Cond.code ({ cls := "ReedSetsModel", name := "bringWord", desc := "()V" } : Jvm.MethodName) prog_9_method_21_code (2 : Nat) (Option.none : Option Jvm.ClassFile.FieldType)) ∈ tb := tb_of (tb_in4 _ (List.mem_of_getElem? (i := 94) (by decide +kernel))) rfl
theorem tb_854 : (Jvm.Cond.methodLink "ReedSetsModel" (131 : Nat) ({ cls := "ReedSetsModel", name := "valueAt", desc := "(I)I" } : Jvm.MethodName)) ∈ tb := tb_of (tb_in4 _ (List.mem_of_getElem? (i := 95) (by decide +kernel))) rfl
theorem tb_856 : (Jvm.Cond.instanceMethod ({ cls := "ReedSetsModel", name := "valueAt", desc := "(I)I" } : Jvm.MethodName)) ∈ tb := tb_of (tb_in4 _ (List.mem_of_getElem? (i := 97) (by decide +kernel))) rfl
theorem tb_857 : (Jvm.Cond.code ({ cls := "ReedSetsModel", name := "valueAt", desc := "(I)I" } : Jvm.MethodName) prog_9_method_20_code (4 : Nat) (Option.some Jvm.ClassFile.FieldType.int)) ∈ tb := tb_of (tb_in4 _ (List.mem_of_getElem? (i := 98) (by decide +kernel))) rfl
theorem tb_858 : (Jvm.Cond.methodLink "ReedSetsLaw" (64 : Nat) ({ cls := "ReedSetsModel", name := "repair", desc := "()I" } : Jvm.MethodName)) ∈ tb := tb_of (tb_in4 _ (List.mem_of_getElem? (i := 99) (by decide +kernel))) rfl
theorem tb_859 : (Jvm.Cond.instanceMethod ({ cls := "ReedSetsModel", name := "repair", desc := "()I" } : Jvm.MethodName)) ∈ tb := tb_of (tb_in4 _ (List.mem_of_getElem? (i := 100) (by decide +kernel))) rfl
theorem tb_860 : (Jvm.Cond.selects "ReedSetsModel" ({ cls := "ReedSetsModel", name := "repair", desc := "()I" } : Jvm.MethodName) ({ cls := "ReedSetsModel", name := "repair", desc := "()I" } : Jvm.MethodName)) ∈ tb := tb_of (tb_in4 _ (List.mem_of_getElem? (i := 101) (by decide +kernel))) rfl
theorem tb_861 : (Jvm.Cond.code ({ cls := "ReedSetsModel", name := "repair", desc := "()I" } : Jvm.MethodName) prog_9_method_28_code (3 : Nat) (Option.some Jvm.ClassFile.FieldType.int)) ∈ tb := tb_of (tb_in4 _ (List.mem_of_getElem? (i := 102) (by decide +kernel))) rfl
theorem tb_862 : (Jvm.Cond.methodLink "ReedSetsModel" (150 : Nat) ({ cls := "ReedSetsModel", name := "repairWork", desc := "()I" } : Jvm.MethodName)) ∈ tb := tb_of (tb_in4 _ (List.mem_of_getElem? (i := 103) (by decide +kernel))) rfl
theorem tb_864 : (Jvm.Cond.instanceMethod ({ cls := "ReedSetsModel", name := "repairWork", desc := "()I" } : Jvm.MethodName)) ∈ tb := tb_of (tb_in4 _ (List.mem_of_getElem? (i := 105) (by decide +kernel))) rfl
theorem tb_865 : (Jvm.Cond.code ({ cls := "ReedSetsModel", name := "repairWork", desc := "()I" } : Jvm.MethodName) prog_9_method_25_code (6 : Nat) (Option.some Jvm.ClassFile.FieldType.int)) ∈ tb := tb_of (tb_in4 _ (List.mem_of_getElem? (i := 106) (by decide +kernel))) rfl
theorem tb_866 : (Jvm.Cond.methodLink "ReedSetsModel" (134 : Nat) ({ cls := "ReedSetsModel", name := "locator", desc := "(I)I" } : Jvm.MethodName)) ∈ tb := tb_of (tb_in4 _ (List.mem_of_getElem? (i := 107) (by decide +kernel))) rfl
theorem tb_868 : (Jvm.Cond.instanceMethod ({ cls := "ReedSetsModel", name := "locator", desc := "(I)I" } : Jvm.MethodName)) ∈ tb := tb_of (tb_in4 _ (List.mem_of_getElem? (i := 109) (by decide +kernel))) rfl
theorem tb_869 : (Jvm.Cond.code ({ cls := "ReedSetsModel", name := "locator", desc := "(I)I" } : Jvm.MethodName) prog_9_method_24_code (2 : Nat) (Option.some Jvm.ClassFile.FieldType.int)) ∈ tb := tb_of (tb_in4 _ (List.mem_of_getElem? (i := 110) (by decide +kernel))) rfl
theorem tb_870 : (Jvm.Cond.methodLink "ReedSetsModel" (137 : Nat) ({ cls := "ReedSetsModel", name := "findSpots", desc := "(II)Z" } : Jvm.MethodName)) ∈ tb := tb_of (tb_in4 _ (List.mem_of_getElem? (i := 111) (by decide +kernel))) rfl
theorem tb_872 : (Jvm.Cond.instanceMethod ({ cls := "ReedSetsModel", name := "findSpots", desc := "(II)Z" } : Jvm.MethodName)) ∈ tb := tb_of (tb_in4 _ (List.mem_of_getElem? (i := 113) (by decide +kernel))) rfl
theorem tb_873 : (Jvm.Cond.code ({ cls := "ReedSetsModel", name := "findSpots", desc := "(II)Z" } : Jvm.MethodName) prog_9_method_26_code (9 : Nat) (Option.some Jvm.ClassFile.FieldType.boolean)) ∈ tb := tb_of (tb_in4 _ (List.mem_of_getElem? (i := 114) (by decide +kernel))) rfl
theorem tb_874 : (Jvm.Cond.methodLink "ReedSetsModel" (144 : Nat) ({ cls := "ReedSetsModel", name := "solve", desc := "(II)Z" } : Jvm.MethodName)) ∈ tb := tb_of (tb_in4 _ (List.mem_of_getElem? (i := 115) (by decide +kernel))) rfl
theorem tb_876 : (Jvm.Cond.instanceMethod ({ cls := "ReedSetsModel", name := "solve", desc := "(II)Z" } : Jvm.MethodName)) ∈ tb := tb_of (tb_in4 _ (List.mem_of_getElem? (i := 117) (by decide +kernel))) rfl
theorem tb_877 : (Jvm.Cond.code ({ cls := "ReedSetsModel", name := "solve", desc := "(II)Z" } : Jvm.MethodName) prog_9_method_23_code (10 : Nat) (Option.some Jvm.ClassFile.FieldType.boolean)) ∈ tb := tb_of (tb_in4 _ (List.mem_of_getElem? (i := 118) (by decide +kernel))) rfl
theorem tb_878 : (Jvm.Cond.methodLink "ReedSetsModel" (141 : Nat) ({ cls := "ReedSetsModel", name := "fill", desc := "(I)Z" } : Jvm.MethodName)) ∈ tb := tb_of (tb_in4 _ (List.mem_of_getElem? (i := 119) (by decide +kernel))) rfl
theorem tb_880 : (Jvm.Cond.instanceMethod ({ cls := "ReedSetsModel", name := "fill", desc := "(I)Z" } : Jvm.MethodName)) ∈ tb := tb_of (tb_in4 _ (List.mem_of_getElem? (i := 121) (by decide +kernel))) rfl
theorem tb_881 : (Jvm.Cond.code ({ cls := "ReedSetsModel", name := "fill", desc := "(I)Z" } : Jvm.MethodName) prog_9_method_27_code (4 : Nat) (Option.some Jvm.ClassFile.FieldType.boolean)) ∈ tb := tb_of (tb_in4 _ (List.mem_of_getElem? (i := 122) (by decide +kernel))) rfl
theorem tb_882 : (Jvm.Cond.methodLink "ReedSetsLaw" (68 : Nat) ({ cls := "ReedSetsModel", name := "changed", desc := "(II)I" } : Jvm.MethodName)) ∈ tb := tb_of (tb_in4 _ (List.mem_of_getElem? (i := 123) (by decide +kernel))) rfl
theorem tb_883 : (Jvm.Cond.instanceMethod ({ cls := "ReedSetsModel", name := "changed", desc := "(II)I" } : Jvm.MethodName)) ∈ tb := tb_of (tb_in4 _ (List.mem_of_getElem? (i := 124) (by decide +kernel))) rfl
theorem tb_884 : (Jvm.Cond.selects "ReedSetsModel" ({ cls := "ReedSetsModel", name := "changed", desc := "(II)I" } : Jvm.MethodName) ({ cls := "ReedSetsModel", name := "changed", desc := "(II)I" } : Jvm.MethodName)) ∈ tb := tb_of (tb_in4 _ (List.mem_of_getElem? (i := 125) (by decide +kernel))) rfl
theorem tb_885 : (Jvm.Cond.code ({ cls := "ReedSetsModel", name := "changed", desc := "(II)I" } : Jvm.MethodName) prog_9_method_29_code (3 : Nat) (Option.some Jvm.ClassFile.FieldType.int)) ∈ tb := tb_of (tb_in4 _ (List.mem_of_getElem? (i := 126) (by decide +kernel))) rfl
theorem tb_886 : (Jvm.Cond.methodLink "ReedSetsLaw" (73 : Nat) ({ cls := "ReedSetsModel", name := "block", desc := "(IIII)I" } : Jvm.MethodName)) ∈ tb := tb_of (tb_in4 _ (List.mem_of_getElem? (i := 127) (by decide +kernel))) rfl
theorem tb_887 : (Jvm.Cond.instanceMethod ({ cls := "ReedSetsModel", name := "block", desc := "(IIII)I" } : Jvm.MethodName)) ∈ tb := tb_of (tb_in4 _ (List.mem_of_getElem? (i := 128) (by decide +kernel))) rfl
theorem tb_888 : (Jvm.Cond.selects "ReedSetsModel" ({ cls := "ReedSetsModel", name := "block", desc := "(IIII)I" } : Jvm.MethodName) ({ cls := "ReedSetsModel", name := "block", desc := "(IIII)I" } : Jvm.MethodName)) ∈ tb := tb_of (tb_in4 _ (List.mem_of_getElem? (i := 129) (by decide +kernel))) rfl
theorem tb_889 : (Jvm.Cond.code ({ cls := "ReedSetsModel", name := "block", desc := "(IIII)I" } : Jvm.MethodName) prog_9_method_31_code (8 : Nat) (Option.some Jvm.ClassFile.FieldType.int)) ∈ tb := tb_of (tb_in4 _ (List.mem_of_getElem? (i := 130) (by decide +kernel))) rfl
theorem tb_890 : (Jvm.Cond.methodLink "ReedSetsModel" (157 : Nat) ({ cls := "ReedSetsModel", name := "isGiven", desc := "(I)Z" } : Jvm.MethodName)) ∈ tb := tb_of (tb_in4 _ (List.mem_of_getElem? (i := 131) (by decide +kernel))) rfl
theorem tb_891 : (Jvm.Cond.static ({ cls := "ReedSetsModel", name := "isGiven", desc := "(I)Z" } : Jvm.MethodName)) ∈ tb := tb_of (tb_in4 _ (List.mem_of_getElem? (i := 132) (by decide +kernel))) rfl
theorem tb_892 : (Jvm.Cond.code ({ cls := "ReedSetsModel", name := "isGiven", desc := "(I)Z" } : Jvm.MethodName) prog_9_method_30_code (1 : Nat) (Option.some Jvm.ClassFile.FieldType.boolean)) ∈ tb := tb_of (tb_in4 _ (List.mem_of_getElem? (i := 133) (by decide +kernel))) rfl
theorem tb_893 : (Jvm.Cond.methodLink "ReedSetsLaw" (77 : Nat) ({ cls := "ReedSetsModel", name := "wipe", desc := "()I" } : Jvm.MethodName)) ∈ tb := tb_of (tb_in4 _ (List.mem_of_getElem? (i := 134) (by decide +kernel))) rfl
theorem tb_894 : (Jvm.Cond.instanceMethod ({ cls := "ReedSetsModel", name := "wipe", desc := "()I" } : Jvm.MethodName)) ∈ tb := tb_of (tb_in4 _ (List.mem_of_getElem? (i := 135) (by decide +kernel))) rfl
theorem tb_895 : (Jvm.Cond.selects "ReedSetsModel" ({ cls := "ReedSetsModel", name := "wipe", desc := "()I" } : Jvm.MethodName) ({ cls := "ReedSetsModel", name := "wipe", desc := "()I" } : Jvm.MethodName)) ∈ tb := tb_of (tb_in4 _ (List.mem_of_getElem? (i := 136) (by decide +kernel))) rfl
theorem tb_896 : (Jvm.Cond.code ({ cls := "ReedSetsModel", name := "wipe", desc := "()I" } : Jvm.MethodName) prog_9_method_32_code (2 : Nat) (Option.some Jvm.ClassFile.FieldType.int)) ∈ tb := tb_of (tb_in4 _ (List.mem_of_getElem? (i := 137) (by decide +kernel))) rfl
theorem tb_897 : (Jvm.Cond.methodLink "ReedSetsLaw" (81 : Nat) ({ cls := "ReedSetsModel", name := "lay", desc := "(I)I" } : Jvm.MethodName)) ∈ tb := tb_of (tb_in4 _ (List.mem_of_getElem? (i := 138) (by decide +kernel))) rfl
theorem tb_898 : (Jvm.Cond.instanceMethod ({ cls := "ReedSetsModel", name := "lay", desc := "(I)I" } : Jvm.MethodName)) ∈ tb := tb_of (tb_in4 _ (List.mem_of_getElem? (i := 139) (by decide +kernel))) rfl
theorem tb_899 : (Jvm.Cond.selects "ReedSetsModel" ({ cls := "ReedSetsModel", name := "lay", desc := "(I)I" } : Jvm.MethodName) ({ cls := "ReedSetsModel", name := "lay", desc := "(I)I" } : Jvm.MethodName)) ∈ tb := tb_of (tb_in4 _ (List.mem_of_getElem? (i := 140) (by decide +kernel))) rfl
theorem tb_900 : (Jvm.Cond.code ({ cls := "ReedSetsModel", name := "lay", desc := "(I)I" } : Jvm.MethodName) prog_9_method_34_code (5 : Nat) (Option.some Jvm.ClassFile.FieldType.int)) ∈ tb := tb_of (tb_in4 _ (List.mem_of_getElem? (i := 141) (by decide +kernel))) rfl
theorem tb_901 : (Jvm.Cond.methodLink "ReedSetsModel" (179 : Nat) ({ cls := "ReedSetsModel", name := "sentSize", desc := "()I" } : Jvm.MethodName)) ∈ tb := tb_of (tb_in4 _ (List.mem_of_getElem? (i := 142) (by decide +kernel))) rfl
theorem tb_903 : (Jvm.Cond.instanceMethod ({ cls := "ReedSetsModel", name := "sentSize", desc := "()I" } : Jvm.MethodName)) ∈ tb := tb_of (tb_in4 _ (List.mem_of_getElem? (i := 144) (by decide +kernel))) rfl
theorem tb_904 : (Jvm.Cond.code ({ cls := "ReedSetsModel", name := "sentSize", desc := "()I" } : Jvm.MethodName) prog_9_method_33_code (1 : Nat) (Option.some Jvm.ClassFile.FieldType.int)) ∈ tb := tb_of (tb_in4 _ (List.mem_of_getElem? (i := 145) (by decide +kernel))) rfl
theorem tb_905 : (Jvm.Cond.methodLink "ReedSetsLaw" (85 : Nat) ({ cls := "ReedSetsModel", name := "sent", desc := "(I)I" } : Jvm.MethodName)) ∈ tb := tb_of (tb_in4 _ (List.mem_of_getElem? (i := 146) (by decide +kernel))) rfl
theorem tb_906 : (Jvm.Cond.instanceMethod ({ cls := "ReedSetsModel", name := "sent", desc := "(I)I" } : Jvm.MethodName)) ∈ tb := tb_of (tb_in4 _ (List.mem_of_getElem? (i := 147) (by decide +kernel))) rfl
theorem tb_907 : (Jvm.Cond.selects "ReedSetsModel" ({ cls := "ReedSetsModel", name := "sent", desc := "(I)I" } : Jvm.MethodName) ({ cls := "ReedSetsModel", name := "sent", desc := "(I)I" } : Jvm.MethodName)) ∈ tb := tb_of (tb_in4 _ (List.mem_of_getElem? (i := 148) (by decide +kernel))) rfl
theorem tb_908 : (Jvm.Cond.code ({ cls := "ReedSetsModel", name := "sent", desc := "(I)I" } : Jvm.MethodName) prog_9_method_36_code (2 : Nat) (Option.some Jvm.ClassFile.FieldType.int)) ∈ tb := tb_of (tb_in4 _ (List.mem_of_getElem? (i := 149) (by decide +kernel))) rfl
theorem tb_909 : (Jvm.Cond.methodLink "ReedSetsModel" (182 : Nat) ({ cls := "ReedSetsModel", name := "isSent", desc := "(I)Z" } : Jvm.MethodName)) ∈ tb := tb_of (tb_in4 _ (List.mem_of_getElem? (i := 150) (by decide +kernel))) rfl
theorem tb_911 : (Jvm.Cond.instanceMethod ({ cls := "ReedSetsModel", name := "isSent", desc := "(I)Z" } : Jvm.MethodName)) ∈ tb := tb_of (tb_in4 _ (List.mem_of_getElem? (i := 152) (by decide +kernel))) rfl
theorem tb_912 : (Jvm.Cond.code ({ cls := "ReedSetsModel", name := "isSent", desc := "(I)Z" } : Jvm.MethodName) prog_9_method_35_code (2 : Nat) (Option.some Jvm.ClassFile.FieldType.boolean)) ∈ tb := tb_of (tb_in4 _ (List.mem_of_getElem? (i := 153) (by decide +kernel))) rfl
theorem tb_913 : (Jvm.Cond.methodLink "ReedSetsLaw" (89 : Nat) ({ cls := "ReedSetsModel", name := "damage", desc := "(III)I" } : Jvm.MethodName)) ∈ tb := tb_of (tb_in4 _ (List.mem_of_getElem? (i := 154) (by decide +kernel))) rfl
theorem tb_914 : (Jvm.Cond.instanceMethod ({ cls := "ReedSetsModel", name := "damage", desc := "(III)I" } : Jvm.MethodName)) ∈ tb := tb_of (tb_in4 _ (List.mem_of_getElem? (i := 155) (by decide +kernel))) rfl
theorem tb_915 : (Jvm.Cond.selects "ReedSetsModel" ({ cls := "ReedSetsModel", name := "damage", desc := "(III)I" } : Jvm.MethodName) ({ cls := "ReedSetsModel", name := "damage", desc := "(III)I" } : Jvm.MethodName)) ∈ tb := tb_of (tb_in4 _ (List.mem_of_getElem? (i := 156) (by decide +kernel))) rfl
theorem tb_916 : (Jvm.Cond.code ({ cls := "ReedSetsModel", name := "damage", desc := "(III)I" } : Jvm.MethodName) prog_9_method_37_code (5 : Nat) (Option.some Jvm.ClassFile.FieldType.int)) ∈ tb := tb_of (tb_in4 _ (List.mem_of_getElem? (i := 157) (by decide +kernel))) rfl
theorem tb_917 : (Jvm.Cond.methodLink "ReedSetsLaw" (93 : Nat) ({ cls := "ReedSetsModel", name := "mend", desc := "()I" } : Jvm.MethodName)) ∈ tb := tb_of (tb_in4 _ (List.mem_of_getElem? (i := 158) (by decide +kernel))) rfl
theorem tb_918 : (Jvm.Cond.instanceMethod ({ cls := "ReedSetsModel", name := "mend", desc := "()I" } : Jvm.MethodName)) ∈ tb := tb_of (tb_in4 _ (List.mem_of_getElem? (i := 159) (by decide +kernel))) rfl
theorem tb_919 : (Jvm.Cond.selects "ReedSetsModel" ({ cls := "ReedSetsModel", name := "mend", desc := "()I" } : Jvm.MethodName) ({ cls := "ReedSetsModel", name := "mend", desc := "()I" } : Jvm.MethodName)) ∈ tb := tb_of (tb_in4 _ (List.mem_of_getElem? (i := 160) (by decide +kernel))) rfl
theorem tb_920 : (Jvm.Cond.code ({ cls := "ReedSetsModel", name := "mend", desc := "()I" } : Jvm.MethodName) prog_9_method_40_code (4 : Nat) (Option.some Jvm.ClassFile.FieldType.int)) ∈ tb := tb_of (tb_in4 _ (List.mem_of_getElem? (i := 161) (by decide +kernel))) rfl
theorem tb_921 : (Jvm.Cond.methodLink "ReedSetsModel" (188 : Nat) ({ cls := "ReedSetsModel", name := "mendStripe", desc := "(I)I" } : Jvm.MethodName)) ∈ tb := tb_of (tb_in4 _ (List.mem_of_getElem? (i := 162) (by decide +kernel))) rfl
theorem tb_923 : (Jvm.Cond.instanceMethod ({ cls := "ReedSetsModel", name := "mendStripe", desc := "(I)I" } : Jvm.MethodName)) ∈ tb := tb_of (tb_in4 _ (List.mem_of_getElem? (i := 164) (by decide +kernel))) rfl
theorem tb_924 : (Jvm.Cond.code ({ cls := "ReedSetsModel", name := "mendStripe", desc := "(I)I" } : Jvm.MethodName) prog_9_method_39_code (5 : Nat) (Option.some Jvm.ClassFile.FieldType.int)) ∈ tb := tb_of (tb_in4 _ (List.mem_of_getElem? (i := 165) (by decide +kernel))) rfl
theorem tb_925 : (Jvm.Cond.methodLink "ReedSetsModel" (185 : Nat) ({ cls := "ReedSetsModel", name := "whereSent", desc := "(II)I" } : Jvm.MethodName)) ∈ tb := tb_of (tb_in4 _ (List.mem_of_getElem? (i := 166) (by decide +kernel))) rfl
theorem tb_927 : (Jvm.Cond.instanceMethod ({ cls := "ReedSetsModel", name := "whereSent", desc := "(II)I" } : Jvm.MethodName)) ∈ tb := tb_of (tb_in4 _ (List.mem_of_getElem? (i := 168) (by decide +kernel))) rfl
theorem tb_928 : (Jvm.Cond.code ({ cls := "ReedSetsModel", name := "whereSent", desc := "(II)I" } : Jvm.MethodName) prog_9_method_38_code (4 : Nat) (Option.some Jvm.ClassFile.FieldType.int)) ∈ tb := tb_of (tb_in4 _ (List.mem_of_getElem? (i := 169) (by decide +kernel))) rfl
theorem tb_929 : (Jvm.Cond.methodLink "ReedSetsLaw" (97 : Nat) ({ cls := "ReedSetsModel", name := "wrong", desc := "()I" } : Jvm.MethodName)) ∈ tb := tb_of (tb_in4 _ (List.mem_of_getElem? (i := 170) (by decide +kernel))) rfl
theorem tb_930 : (Jvm.Cond.instanceMethod ({ cls := "ReedSetsModel", name := "wrong", desc := "()I" } : Jvm.MethodName)) ∈ tb := tb_of (tb_in4 _ (List.mem_of_getElem? (i := 171) (by decide +kernel))) rfl
theorem tb_931 : (Jvm.Cond.selects "ReedSetsModel" ({ cls := "ReedSetsModel", name := "wrong", desc := "()I" } : Jvm.MethodName) ({ cls := "ReedSetsModel", name := "wrong", desc := "()I" } : Jvm.MethodName)) ∈ tb := tb_of (tb_in4 _ (List.mem_of_getElem? (i := 172) (by decide +kernel))) rfl
theorem tb_932 : (Jvm.Cond.code ({ cls := "ReedSetsModel", name := "wrong", desc := "()I" } : Jvm.MethodName) prog_9_method_41_code (3 : Nat) (Option.some Jvm.ClassFile.FieldType.int)) ∈ tb := tb_of (tb_in4 _ (List.mem_of_getElem? (i := 173) (by decide +kernel))) rfl
theorem tb_933 : (Jvm.Cond.methodLink "ReedSetsLaw" (101 : Nat) ({ cls := "ReedSetsModel", name := "shares", desc := "(II)I" } : Jvm.MethodName)) ∈ tb := tb_of (tb_in4 _ (List.mem_of_getElem? (i := 174) (by decide +kernel))) rfl
theorem tb_934 : (Jvm.Cond.instanceMethod ({ cls := "ReedSetsModel", name := "shares", desc := "(II)I" } : Jvm.MethodName)) ∈ tb := tb_of (tb_in4 _ (List.mem_of_getElem? (i := 175) (by decide +kernel))) rfl
theorem tb_935 : (Jvm.Cond.selects "ReedSetsModel" ({ cls := "ReedSetsModel", name := "shares", desc := "(II)I" } : Jvm.MethodName) ({ cls := "ReedSetsModel", name := "shares", desc := "(II)I" } : Jvm.MethodName)) ∈ tb := tb_of (tb_in4 _ (List.mem_of_getElem? (i := 176) (by decide +kernel))) rfl
theorem tb_936 : (Jvm.Cond.code ({ cls := "ReedSetsModel", name := "shares", desc := "(II)I" } : Jvm.MethodName) prog_9_method_42_code (4 : Nat) (Option.some Jvm.ClassFile.FieldType.int)) ∈ tb := tb_of (tb_in4 _ (List.mem_of_getElem? (i := 177) (by decide +kernel))) rfl
theorem tb_937 : (Jvm.Cond.methodLink "ReedSetsLaw" (105 : Nat) ({ cls := "ReedSetsModel", name := "share", desc := "(III)I" } : Jvm.MethodName)) ∈ tb := tb_of (tb_in4 _ (List.mem_of_getElem? (i := 178) (by decide +kernel))) rfl
theorem tb_938 : (Jvm.Cond.instanceMethod ({ cls := "ReedSetsModel", name := "share", desc := "(III)I" } : Jvm.MethodName)) ∈ tb := tb_of (tb_in4 _ (List.mem_of_getElem? (i := 179) (by decide +kernel))) rfl
theorem tb_939 : (Jvm.Cond.selects "ReedSetsModel" ({ cls := "ReedSetsModel", name := "share", desc := "(III)I" } : Jvm.MethodName) ({ cls := "ReedSetsModel", name := "share", desc := "(III)I" } : Jvm.MethodName)) ∈ tb := tb_of (tb_in4 _ (List.mem_of_getElem? (i := 180) (by decide +kernel))) rfl
theorem tb_940 : (Jvm.Cond.code ({ cls := "ReedSetsModel", name := "share", desc := "(III)I" } : Jvm.MethodName) prog_9_method_43_code (5 : Nat) (Option.some Jvm.ClassFile.FieldType.int)) ∈ tb := tb_of (tb_in4 _ (List.mem_of_getElem? (i := 181) (by decide +kernel))) rfl
theorem tb_941 : (Jvm.Cond.methodLink "ReedSetsLaw" (109 : Nat) ({ cls := "ReedSetsModel", name := "drop", desc := "(I)I" } : Jvm.MethodName)) ∈ tb := tb_of (tb_in4 _ (List.mem_of_getElem? (i := 182) (by decide +kernel))) rfl
theorem tb_942 : (Jvm.Cond.instanceMethod ({ cls := "ReedSetsModel", name := "drop", desc := "(I)I" } : Jvm.MethodName)) ∈ tb := tb_of (tb_in4 _ (List.mem_of_getElem? (i := 183) (by decide +kernel))) rfl
theorem tb_943 : (Jvm.Cond.selects "ReedSetsModel" ({ cls := "ReedSetsModel", name := "drop", desc := "(I)I" } : Jvm.MethodName) ({ cls := "ReedSetsModel", name := "drop", desc := "(I)I" } : Jvm.MethodName)) ∈ tb := tb_of (tb_in4 _ (List.mem_of_getElem? (i := 184) (by decide +kernel))) rfl
theorem tb_944 : (Jvm.Cond.code ({ cls := "ReedSetsModel", name := "drop", desc := "(I)I" } : Jvm.MethodName) prog_9_method_44_code (2 : Nat) (Option.some Jvm.ClassFile.FieldType.int)) ∈ tb := tb_of (tb_in4 _ (List.mem_of_getElem? (i := 185) (by decide +kernel))) rfl
theorem tb_945 : (Jvm.Cond.methodLink "ReedSetsLaw" (113 : Nat) ({ cls := "ReedSetsModel", name := "made", desc := "(II)I" } : Jvm.MethodName)) ∈ tb := tb_of (tb_in4 _ (List.mem_of_getElem? (i := 186) (by decide +kernel))) rfl
theorem tb_946 : (Jvm.Cond.instanceMethod ({ cls := "ReedSetsModel", name := "made", desc := "(II)I" } : Jvm.MethodName)) ∈ tb := tb_of (tb_in4 _ (List.mem_of_getElem? (i := 187) (by decide +kernel))) rfl
theorem tb_947 : (Jvm.Cond.selects "ReedSetsModel" ({ cls := "ReedSetsModel", name := "made", desc := "(II)I" } : Jvm.MethodName) ({ cls := "ReedSetsModel", name := "made", desc := "(II)I" } : Jvm.MethodName)) ∈ tb := tb_of (tb_in4 _ (List.mem_of_getElem? (i := 188) (by decide +kernel))) rfl
theorem tb_948 : (Jvm.Cond.code ({ cls := "ReedSetsModel", name := "made", desc := "(II)I" } : Jvm.MethodName) prog_9_method_48_code (3 : Nat) (Option.some Jvm.ClassFile.FieldType.int)) ∈ tb := tb_of (tb_in4 _ (List.mem_of_getElem? (i := 189) (by decide +kernel))) rfl
theorem tb_949 : (Jvm.Cond.methodLink "ReedSetsModel" (194 : Nat) ({ cls := "ReedSetsModel", name := "findUsed", desc := "(I)V" } : Jvm.MethodName)) ∈ tb := tb_of (tb_in4 _ (List.mem_of_getElem? (i := 190) (by decide +kernel))) rfl
theorem tb_951 : (Jvm.Cond.instanceMethod ({ cls := "ReedSetsModel", name := "findUsed", desc := "(I)V" } : Jvm.MethodName)) ∈ tb := tb_of (tb_in4 _ (List.mem_of_getElem? (i := 192) (by decide +kernel))) rfl
theorem tb_952 : (Jvm.Cond.code ({ cls := "ReedSetsModel", name := "findUsed", desc := "(I)V" } : Jvm.MethodName) prog_9_method_45_code (6 : Nat) (Option.none : Option Jvm.ClassFile.FieldType)) ∈ tb := tb_of (tb_in4 _ (List.mem_of_getElem? (i := 193) (by decide +kernel))) rfl
theorem tb_953 : (Jvm.Cond.methodLink "ReedSetsModel" (198 : Nat) ({ cls := "ReedSetsModel", name := "weigh", desc := "(I)V" } : Jvm.MethodName)) ∈ tb := tb_of (tb_in4 _ (List.mem_of_getElem? (i := 194) (by decide +kernel))) rfl
theorem tb_955 : (Jvm.Cond.instanceMethod ({ cls := "ReedSetsModel", name := "weigh", desc := "(I)V" } : Jvm.MethodName)) ∈ tb := tb_of (tb_in4 _ (List.mem_of_getElem? (i := 196) (by decide +kernel))) rfl
theorem tb_956 : (Jvm.Cond.code ({ cls := "ReedSetsModel", name := "weigh", desc := "(I)V" } : Jvm.MethodName) prog_9_method_46_code (5 : Nat) (Option.none : Option Jvm.ClassFile.FieldType)) ∈ tb := tb_of (tb_in4 _ (List.mem_of_getElem? (i := 197) (by decide +kernel))) rfl
theorem tb_957 : (Jvm.Cond.methodLink "ReedSetsModel" (201 : Nat) ({ cls := "ReedSetsModel", name := "madeBy", desc := "(I)I" } : Jvm.MethodName)) ∈ tb := tb_of (tb_in4 _ (List.mem_of_getElem? (i := 198) (by decide +kernel))) rfl
theorem tb_959 : (Jvm.Cond.instanceMethod ({ cls := "ReedSetsModel", name := "madeBy", desc := "(I)I" } : Jvm.MethodName)) ∈ tb := tb_of (tb_in4 _ (List.mem_of_getElem? (i := 200) (by decide +kernel))) rfl
theorem tb_960 : (Jvm.Cond.code ({ cls := "ReedSetsModel", name := "madeBy", desc := "(I)I" } : Jvm.MethodName) prog_9_method_47_code (4 : Nat) (Option.some Jvm.ClassFile.FieldType.int)) ∈ tb := tb_of (tb_in4 _ (List.mem_of_getElem? (i := 201) (by decide +kernel))) rfl
theorem tb_961 : (Jvm.Cond.methodLink "ReedSetsLaw" (117 : Nat) ({ cls := "ReedSetsModel", name := "apart", desc := "()I" } : Jvm.MethodName)) ∈ tb := tb_of (tb_in4 _ (List.mem_of_getElem? (i := 202) (by decide +kernel))) rfl
theorem tb_962 : (Jvm.Cond.instanceMethod ({ cls := "ReedSetsModel", name := "apart", desc := "()I" } : Jvm.MethodName)) ∈ tb := tb_of (tb_in4 _ (List.mem_of_getElem? (i := 203) (by decide +kernel))) rfl
theorem tb_963 : (Jvm.Cond.selects "ReedSetsModel" ({ cls := "ReedSetsModel", name := "apart", desc := "()I" } : Jvm.MethodName) ({ cls := "ReedSetsModel", name := "apart", desc := "()I" } : Jvm.MethodName)) ∈ tb := tb_of (tb_in4 _ (List.mem_of_getElem? (i := 204) (by decide +kernel))) rfl
theorem tb_964 : (Jvm.Cond.code ({ cls := "ReedSetsModel", name := "apart", desc := "()I" } : Jvm.MethodName) prog_9_method_50_code (1 : Nat) (Option.some Jvm.ClassFile.FieldType.int)) ∈ tb := tb_of (tb_in4 _ (List.mem_of_getElem? (i := 205) (by decide +kernel))) rfl
theorem tb_965 : (Jvm.Cond.methodLink "ReedSetsModel" (204 : Nat) ({ cls := "ReedSetsModel", name := "unlike", desc := "(II)I" } : Jvm.MethodName)) ∈ tb := tb_of (tb_in4 _ (List.mem_of_getElem? (i := 206) (by decide +kernel))) rfl
theorem tb_967 : (Jvm.Cond.instanceMethod ({ cls := "ReedSetsModel", name := "unlike", desc := "(II)I" } : Jvm.MethodName)) ∈ tb := tb_of (tb_in4 _ (List.mem_of_getElem? (i := 208) (by decide +kernel))) rfl
theorem tb_968 : (Jvm.Cond.code ({ cls := "ReedSetsModel", name := "unlike", desc := "(II)I" } : Jvm.MethodName) prog_9_method_49_code (7 : Nat) (Option.some Jvm.ClassFile.FieldType.int)) ∈ tb := tb_of (tb_in4 _ (List.mem_of_getElem? (i := 209) (by decide +kernel))) rfl
theorem tb_969 : (Jvm.Cond.methodLink "ReedSetsLaw" (121 : Nat) ({ cls := "ReedSetsModel", name := "odd", desc := "()I" } : Jvm.MethodName)) ∈ tb := tb_of (tb_in4 _ (List.mem_of_getElem? (i := 210) (by decide +kernel))) rfl
theorem tb_970 : (Jvm.Cond.instanceMethod ({ cls := "ReedSetsModel", name := "odd", desc := "()I" } : Jvm.MethodName)) ∈ tb := tb_of (tb_in4 _ (List.mem_of_getElem? (i := 211) (by decide +kernel))) rfl
theorem tb_971 : (Jvm.Cond.selects "ReedSetsModel" ({ cls := "ReedSetsModel", name := "odd", desc := "()I" } : Jvm.MethodName) ({ cls := "ReedSetsModel", name := "odd", desc := "()I" } : Jvm.MethodName)) ∈ tb := tb_of (tb_in4 _ (List.mem_of_getElem? (i := 212) (by decide +kernel))) rfl
theorem tb_972 : (Jvm.Cond.code ({ cls := "ReedSetsModel", name := "odd", desc := "()I" } : Jvm.MethodName) prog_9_method_51_code (2 : Nat) (Option.some Jvm.ClassFile.FieldType.int)) ∈ tb := tb_of (tb_in4 _ (List.mem_of_getElem? (i := 213) (by decide +kernel))) rfl
def T_Ch : u_T := fun k => match k with
  | 0 => ("ReedSets$Changes", "places", "[I", true)
  | 1 => ("ReedSets$Changes", "differences", "[I", true)
  | _ => ("ReedSets$Changes", "count", "I", false)
def ty_Ch : Nat → FieldType := fun k => match k with
  | 0 => .array .int
  | 1 => .array .int
  | _ => .int
theorem nm_Ch : ∀ a, a < 3 → ∀ b, b < 3 → a ≠ b → (T_Ch a).2.1 ≠ (T_Ch b).2.1 := by decide +kernel
theorem tk_Ch : ∀ k, k < 3 → parseFieldDescriptor (T_Ch k).2.2.1 = some (ty_Ch k) := by decide +kernel
theorem in_Ch : ∀ w ∈ u_ws "ReedSets$Changes" T_Ch 3, w ∈ tb := by
  intro w hw
  obtain ⟨k, hk, rfl⟩ := List.mem_map.mp hw
  have hk := List.mem_range.mp hk
  match k, hk with
  | 0, _ => exact tb_189
  | 1, _ => exact tb_191
  | 2, _ => exact tb_193
  | k + 3, hk => exact absurd hk (by omega)
def T_Fi : u_T := fun k => match k with
  | 0 => ("ReedSets$Field", "powers", "[I", true)
  | _ => ("ReedSets$Field", "logs", "[I", true)
def ty_Fi : Nat → FieldType := fun k => match k with
  | 0 => .array .int
  | _ => .array .int
theorem nm_Fi : ∀ a, a < 2 → ∀ b, b < 2 → a ≠ b → (T_Fi a).2.1 ≠ (T_Fi b).2.1 := by decide +kernel
theorem tk_Fi : ∀ k, k < 2 → parseFieldDescriptor (T_Fi k).2.2.1 = some (ty_Fi k) := by decide +kernel
theorem in_Fi : ∀ w ∈ u_ws "ReedSets$Field" T_Fi 2, w ∈ tb := by
  intro w hw
  obtain ⟨k, hk, rfl⟩ := List.mem_map.mp hw
  have hk := List.mem_range.mp hk
  match k, hk with
  | 0, _ => exact tb_67
  | 1, _ => exact tb_69
  | k + 2, hk => exact absurd hk (by omega)
def T_Sh : u_T := fun k => match k with
  | 0 => ("ReedSets$Sharing", "field", "LReedSets$Field;", true)
  | 1 => ("ReedSets$Sharing", "values", "[I", true)
  | 2 => ("ReedSets$Sharing", "base", "[I", true)
  | 3 => ("ReedSets$Sharing", "weights", "[I", true)
  | 4 => ("ReedSets$Sharing", "parts", "[I", true)
  | 5 => ("ReedSets$Sharing", "lastApart", "I", false)
  | 6 => ("ReedSets$Sharing", "needed", "I", false)
  | 7 => ("ReedSets$Sharing", "width", "I", false)
  | 8 => ("ReedSets$Sharing", "told", "[Z", true)
  | _ => ("ReedSets$Sharing", "count", "I", false)
def ty_Sh : Nat → FieldType := fun k => match k with
  | 0 => .object "ReedSets$Field"
  | 1 => .array .int
  | 2 => .array .int
  | 3 => .array .int
  | 4 => .array .int
  | 5 => .int
  | 6 => .int
  | 7 => .int
  | 8 => .array .boolean
  | _ => .int
theorem nm_Sh : ∀ a, a < 10 → ∀ b, b < 10 → a ≠ b → (T_Sh a).2.1 ≠ (T_Sh b).2.1 := by decide +kernel
theorem tk_Sh : ∀ k, k < 10 → parseFieldDescriptor (T_Sh k).2.2.1 = some (ty_Sh k) := by decide +kernel
theorem in_Sh : ∀ w ∈ u_ws "ReedSets$Sharing" T_Sh 10, w ∈ tb := by
  intro w hw
  obtain ⟨k, hk, rfl⟩ := List.mem_map.mp hw
  have hk := List.mem_range.mp hk
  match k, hk with
  | 0, _ => exact tb_254
  | 1, _ => exact tb_256
  | 2, _ => exact tb_258
  | 3, _ => exact tb_260
  | 4, _ => exact tb_262
  | 5, _ => exact tb_264
  | 6, _ => exact tb_266
  | 7, _ => exact tb_268
  | 8, _ => exact tb_270
  | 9, _ => exact tb_272
  | k + 10, hk => exact absurd hk (by omega)
def T_So : u_T := fun k => match k with
  | 0 => ("ReedSets$Solver", "field", "LReedSets$Field;", true)
  | 1 => ("ReedSets$Solver", "syndromes", "[I", true)
  | 2 => ("ReedSets$Solver", "locator", "[I", true)
  | 3 => ("ReedSets$Solver", "helper", "[I", true)
  | 4 => ("ReedSets$Solver", "kept", "[I", true)
  | 5 => ("ReedSets$Solver", "evaluator", "[I", true)
  | 6 => ("ReedSets$Solver", "places", "[I", true)
  | 7 => ("ReedSets$Solver", "fixes", "[I", true)
  | _ => ("ReedSets$Solver", "found", "I", false)
def ty_So : Nat → FieldType := fun k => match k with
  | 0 => .object "ReedSets$Field"
  | 1 => .array .int
  | 2 => .array .int
  | 3 => .array .int
  | 4 => .array .int
  | 5 => .array .int
  | 6 => .array .int
  | 7 => .array .int
  | _ => .int
theorem nm_So : ∀ a, a < 9 → ∀ b, b < 9 → a ≠ b → (T_So a).2.1 ≠ (T_So b).2.1 := by decide +kernel
theorem tk_So : ∀ k, k < 9 → parseFieldDescriptor (T_So k).2.2.1 = some (ty_So k) := by decide +kernel
theorem in_So : ∀ w ∈ u_ws "ReedSets$Solver" T_So 9, w ∈ tb := by
  intro w hw
  obtain ⟨k, hk, rfl⟩ := List.mem_map.mp hw
  have hk := List.mem_range.mp hk
  match k, hk with
  | 0, _ => exact tb_158
  | 1, _ => exact tb_160
  | 2, _ => exact tb_162
  | 3, _ => exact tb_164
  | 4, _ => exact tb_166
  | 5, _ => exact tb_168
  | 6, _ => exact tb_170
  | 7, _ => exact tb_172
  | 8, _ => exact tb_174
  | k + 9, hk => exact absurd hk (by omega)
def T_St : u_T := fun k => match k with
  | 0 => ("ReedSets$Striped", "block", "[I", true)
  | 1 => ("ReedSets$Striped", "original", "[I", true)
  | 2 => ("ReedSets$Striped", "lost", "[Z", true)
  | 3 => ("ReedSets$Striped", "stripe", "LReedSets$Word;", true)
  | 4 => ("ReedSets$Striped", "current", "[I", true)
  | 5 => ("ReedSets$Striped", "size", "I", false)
  | 6 => ("ReedSets$Striped", "stripes", "I", false)
  | _ => ("ReedSets$Striped", "sentCount", "I", false)
def ty_St : Nat → FieldType := fun k => match k with
  | 0 => .array .int
  | 1 => .array .int
  | 2 => .array .boolean
  | 3 => .object "ReedSets$Word"
  | 4 => .array .int
  | 5 => .int
  | 6 => .int
  | _ => .int
theorem nm_St : ∀ a, a < 8 → ∀ b, b < 8 → a ≠ b → (T_St a).2.1 ≠ (T_St b).2.1 := by decide +kernel
theorem tk_St : ∀ k, k < 8 → parseFieldDescriptor (T_St k).2.2.1 = some (ty_St k) := by decide +kernel
theorem in_St : ∀ w ∈ u_ws "ReedSets$Striped" T_St 8, w ∈ tb := by
  intro w hw
  obtain ⟨k, hk, rfl⟩ := List.mem_map.mp hw
  have hk := List.mem_range.mp hk
  match k, hk with
  | 0, _ => exact tb_215
  | 1, _ => exact tb_217
  | 2, _ => exact tb_219
  | 3, _ => exact tb_221
  | 4, _ => exact tb_223
  | 5, _ => exact tb_225
  | 6, _ => exact tb_227
  | 7, _ => exact tb_229
  | k + 8, hk => exact absurd hk (by omega)
def T_Wo : u_T := fun k => match k with
  | 0 => ("ReedSets$Word", "field", "LReedSets$Field;", true)
  | 1 => ("ReedSets$Word", "bytes", "[I", true)
  | 2 => ("ReedSets$Word", "lost", "[Z", true)
  | 3 => ("ReedSets$Word", "factors", "[I", true)
  | 4 => ("ReedSets$Word", "lostCount", "I", false)
  | 5 => ("ReedSets$Word", "data", "I", false)
  | 6 => ("ReedSets$Word", "repairs", "I", false)
  | _ => ("ReedSets$Word", "first", "I", false)
def ty_Wo : Nat → FieldType := fun k => match k with
  | 0 => .object "ReedSets$Field"
  | 1 => .array .int
  | 2 => .array .boolean
  | 3 => .array .int
  | 4 => .int
  | 5 => .int
  | 6 => .int
  | _ => .int
theorem nm_Wo : ∀ a, a < 8 → ∀ b, b < 8 → a ≠ b → (T_Wo a).2.1 ≠ (T_Wo b).2.1 := by decide +kernel
theorem tk_Wo : ∀ k, k < 8 → parseFieldDescriptor (T_Wo k).2.2.1 = some (ty_Wo k) := by decide +kernel
theorem in_Wo : ∀ w ∈ u_ws "ReedSets$Word" T_Wo 8, w ∈ tb := by
  intro w hw
  obtain ⟨k, hk, rfl⟩ := List.mem_map.mp hw
  have hk := List.mem_range.mp hk
  match k, hk with
  | 0, _ => exact tb_123
  | 1, _ => exact tb_125
  | 2, _ => exact tb_127
  | 3, _ => exact tb_129
  | 4, _ => exact tb_131
  | 5, _ => exact tb_133
  | 6, _ => exact tb_135
  | 7, _ => exact tb_137
  | k + 8, hk => exact absurd hk (by omega)
def T_RS : u_T := fun k => match k with
  | 0 => ("ReedSets", "field", "LReedSets$Field;", true)
  | 1 => ("ReedSets", "word", "LReedSets$Word;", true)
  | 2 => ("ReedSets", "solver", "LReedSets$Solver;", true)
  | 3 => ("ReedSets", "changes", "LReedSets$Changes;", true)
  | 4 => ("ReedSets", "striped", "LReedSets$Striped;", true)
  | _ => ("ReedSets", "sharing", "LReedSets$Sharing;", true)
def ty_RS : Nat → FieldType := fun k => match k with
  | 0 => .object "ReedSets$Field"
  | 1 => .object "ReedSets$Word"
  | 2 => .object "ReedSets$Solver"
  | 3 => .object "ReedSets$Changes"
  | 4 => .object "ReedSets$Striped"
  | _ => .object "ReedSets$Sharing"
theorem nm_RS : ∀ a, a < 6 → ∀ b, b < 6 → a ≠ b → (T_RS a).2.1 ≠ (T_RS b).2.1 := by decide +kernel
theorem tk_RS : ∀ k, k < 6 → parseFieldDescriptor (T_RS k).2.2.1 = some (ty_RS k) := by decide +kernel
theorem in_RS : ∀ w ∈ u_ws "ReedSets" T_RS 6, w ∈ tb := by
  intro w hw
  obtain ⟨k, hk, rfl⟩ := List.mem_map.mp hw
  have hk := List.mem_range.mp hk
  match k, hk with
  | 0, _ => exact tb_281
  | 1, _ => exact tb_283
  | 2, _ => exact tb_285
  | 3, _ => exact tb_287
  | 4, _ => exact tb_289
  | 5, _ => exact tb_291
  | k + 6, hk => exact absurd hk (by omega)
def T_Mo : u_T := fun k => match k with
  | 0 => ("ReedSetsModel", "n", "I", false)
  | 1 => ("ReedSetsModel", "k", "I", false)
  | 2 => ("ReedSetsModel", "b", "I", false)
  | 3 => ("ReedSetsModel", "word", "[I", true)
  | 4 => ("ReedSetsModel", "lost", "[Z", true)
  | 5 => ("ReedSetsModel", "generators", "[I", true)
  | 6 => ("ReedSetsModel", "changes", "I", false)
  | 7 => ("ReedSetsModel", "changedPlaces", "[I", true)
  | 8 => ("ReedSetsModel", "changedBy", "[I", true)
  | 9 => ("ReedSetsModel", "work", "[I", true)
  | 10 => ("ReedSetsModel", "workLost", "[Z", true)
  | 11 => ("ReedSetsModel", "workSize", "I", false)
  | 12 => ("ReedSetsModel", "workRepairs", "I", false)
  | 13 => ("ReedSetsModel", "workFirst", "I", false)
  | 14 => ("ReedSetsModel", "sums", "[I", true)
  | 15 => ("ReedSetsModel", "rest", "[I", true)
  | 16 => ("ReedSetsModel", "spots", "[I", true)
  | 17 => ("ReedSetsModel", "spotCount", "I", false)
  | 18 => ("ReedSetsModel", "matrix", "[I", true)
  | 19 => ("ReedSetsModel", "answer", "[I", true)
  | 20 => ("ReedSetsModel", "block", "[I", true)
  | 21 => ("ReedSetsModel", "blockSize", "I", false)
  | 22 => ("ReedSetsModel", "laid", "Z", false)
  | 23 => ("ReedSetsModel", "stripes", "I", false)
  | 24 => ("ReedSetsModel", "longest", "I", false)
  | 25 => ("ReedSetsModel", "laidRepairs", "I", false)
  | 26 => ("ReedSetsModel", "laidFirst", "I", false)
  | 27 => ("ReedSetsModel", "sent", "[I", true)
  | 28 => ("ReedSetsModel", "asLaid", "[I", true)
  | 29 => ("ReedSetsModel", "sentLost", "[Z", true)
  | 30 => ("ReedSetsModel", "degree", "I", false)
  | 31 => ("ReedSetsModel", "wide", "I", false)
  | 32 => ("ReedSetsModel", "told", "[Z", true)
  | 33 => ("ReedSetsModel", "shares", "[I", true)
  | 34 => ("ReedSetsModel", "toldCount", "I", false)
  | 35 => ("ReedSetsModel", "used", "[I", true)
  | 36 => ("ReedSetsModel", "downs", "[I", true)
  | _ => ("ReedSetsModel", "weights", "[I", true)
def ty_Mo : Nat → FieldType := fun k => match k with
  | 0 => .int
  | 1 => .int
  | 2 => .int
  | 3 => .array .int
  | 4 => .array .boolean
  | 5 => .array .int
  | 6 => .int
  | 7 => .array .int
  | 8 => .array .int
  | 9 => .array .int
  | 10 => .array .boolean
  | 11 => .int
  | 12 => .int
  | 13 => .int
  | 14 => .array .int
  | 15 => .array .int
  | 16 => .array .int
  | 17 => .int
  | 18 => .array .int
  | 19 => .array .int
  | 20 => .array .int
  | 21 => .int
  | 22 => .boolean
  | 23 => .int
  | 24 => .int
  | 25 => .int
  | 26 => .int
  | 27 => .array .int
  | 28 => .array .int
  | 29 => .array .boolean
  | 30 => .int
  | 31 => .int
  | 32 => .array .boolean
  | 33 => .array .int
  | 34 => .int
  | 35 => .array .int
  | 36 => .array .int
  | _ => .array .int
theorem nm_Mo : ∀ a, a < 38 → ∀ b, b < 38 → a ≠ b → (T_Mo a).2.1 ≠ (T_Mo b).2.1 := by decide +kernel
theorem tk_Mo : ∀ k, k < 38 → parseFieldDescriptor (T_Mo k).2.2.1 = some (ty_Mo k) := by decide +kernel
theorem in_Mo : ∀ w ∈ u_ws "ReedSetsModel" T_Mo 38, w ∈ tb := by
  intro w hw
  obtain ⟨k, hk, rfl⟩ := List.mem_map.mp hw
  have hk := List.mem_range.mp hk
  match k, hk with
  | 0, _ => exact tb_702
  | 1, _ => exact tb_704
  | 2, _ => exact tb_706
  | 3, _ => exact tb_708
  | 4, _ => exact tb_710
  | 5, _ => exact tb_712
  | 6, _ => exact tb_714
  | 7, _ => exact tb_716
  | 8, _ => exact tb_718
  | 9, _ => exact tb_720
  | 10, _ => exact tb_722
  | 11, _ => exact tb_724
  | 12, _ => exact tb_726
  | 13, _ => exact tb_728
  | 14, _ => exact tb_730
  | 15, _ => exact tb_732
  | 16, _ => exact tb_734
  | 17, _ => exact tb_736
  | 18, _ => exact tb_738
  | 19, _ => exact tb_740
  | 20, _ => exact tb_742
  | 21, _ => exact tb_744
  | 22, _ => exact tb_746
  | 23, _ => exact tb_748
  | 24, _ => exact tb_750
  | 25, _ => exact tb_752
  | 26, _ => exact tb_754
  | 27, _ => exact tb_756
  | 28, _ => exact tb_758
  | 29, _ => exact tb_760
  | 30, _ => exact tb_762
  | 31, _ => exact tb_764
  | 32, _ => exact tb_766
  | 33, _ => exact tb_768
  | 34, _ => exact tb_770
  | 35, _ => exact tb_772
  | 36, _ => exact tb_774
  | 37, _ => exact tb_776
  | k + 38, hk => exact absurd hk (by omega)
abbrev vwCl : List vw_C := [("ReedSets$Changes", T_Ch, 3), ("ReedSets$Field", T_Fi, 2), ("ReedSets$Sharing", T_Sh, 10), ("ReedSets$Solver", T_So, 9), ("ReedSets$Striped", T_St, 8), ("ReedSets$Word", T_Wo, 8), ("ReedSets", T_RS, 6), ("ReedSetsModel", T_Mo, 38)]
