/-! classical if, answers of booleans, weakening; and what the ends of the methods are -/
noncomputable def iC {α : Type} (P : Prop) (a b : α) : α := @ite α P (Classical.propDecidable P) a b
theorem iC_t {α : Type} {P : Prop} {a b : α} (h : P) : iC P a b = a := by unfold iC; rw [if_pos h]
theorem iC_f {α : Type} {P : Prop} {a b : α} (h : ¬ P) : iC P a b = b := by unfold iC; rw [if_neg h]
def iP (P A B : Prop) : Prop := (P → A) ∧ (¬ P → B)
theorem iP_t {P A B : Prop} (h : P) : iP P A B = A := propext ⟨fun z => z.1 h, fun z => ⟨fun _ => z, fun n => absurd h n⟩⟩
theorem iP_f {P A B : Prop} (h : ¬ P) : iP P A B = B := propext ⟨fun z => z.2 h, fun z => ⟨fun n => absurd n h, fun _ => z⟩⟩
noncomputable def bI (P : Prop) : Int32 := iC P 1 0
theorem bI_1 {P : Prop} (h : P) : bI P = 1 := iC_t h
theorem bI_0 {P : Prop} (h : ¬ P) : bI P = 0 := iC_f h
theorem bI_T : bI True = 1 := bI_1 trivial
theorem bI_F : bI False = 0 := bI_0 id
theorem bI_n {P : Prop} (h : bI P = 0) : ¬ P := fun z => by rw [bI_1 z] at h; exact absurd h (by decide)
theorem bI_p {P : Prop} (h : ¬ bI P = 0) : P := Classical.byContradiction fun z => h (bI_0 z)
theorem bI_nar {P : Prop} : narrow .boolean (.int (bI P)) = .int (bI P) := by
  by_cases h : P
  · rw [bI_1 h]; rfl
  · rw [bI_0 h]; rfl
theorem lfI {a b : Int32} {s : St} {Q : Int32 → St → Prop} (e : a = b) (h : Q a s) : Q b s := e ▸ h
theorem lfV {a b : St} {Q : St → Prop} (e : a = b) (h : Q a) : Q b := e ▸ h
theorem lfF {a : Int32 × St} {x : Int32} {t : St} {Q : Int32 → St → Prop} (e : a = (x, t)) (h : Q a.1 a.2) : Q x t := by rw [e] at h; exact h
theorem does_mono {l : Launch} {G : Geo} {d k : Nat} {av : List Value} {σ : St} {p1 p2 : Option Value → St → Prop} (h : DoesQ l G d k av σ p1) (hm : ∀ r σ', p1 r σ' → p2 r σ') : DoesQ l G d k av σ p2 := by
  intro g hg p e ha hc hk s m args below hf happ hP hK
  obtain ⟨n, o, h1, h2, h3, ⟨⟨⟨r, σ', e1, e2, e3⟩, hF⟩, L⟩⟩ := h g hg p e ha hc hk s m args below hf happ hP hK
  exact ⟨n, o, h1, h2, h3, ⟨⟨⟨r, σ', e1, hm r σ' e2, e3⟩, hF⟩, L⟩⟩
theorem doesI_mono {l : Launch} {G : Geo} {d k : Nat} {av : List Value} {σ : St} {p1 p2 : Int32 → St → Prop} (h : DoesI l G d k av σ p1) (hm : ∀ r σ', p1 r σ' → p2 r σ') : DoesI l G d k av σ p2 :=
  does_mono h fun r σ' hp => by
    unfold pI at hp ⊢
    split at hp
    · exact hm _ _ hp
    · exact hp.elim
theorem doesV_mono {l : Launch} {G : Geo} {d k : Nat} {av : List Value} {σ : St} {p1 p2 : St → Prop} (h : DoesV l G d k av σ p1) (hm : ∀ σ', p1 σ' → p2 σ') : DoesV l G d k av σ p2 :=
  does_mono h fun r σ' hp => by
    unfold pV at hp ⊢
    split at hp
    · exact hm _ hp
    · exact hp.elim
theorem doesR_mono {l : Launch} {G : Geo} {d k : Nat} {av : List Value} {σ : St} {p1 p2 : Nat → St → Prop} (h : DoesR l G d k av σ p1) (hm : ∀ r σ', p1 r σ' → p2 r σ') : DoesR l G d k av σ p2 :=
  does_mono h fun r σ' hp => by
    unfold pR at hp ⊢
    split at hp
    · exact hm _ _ hp
    · exact hp.elim
/-- the first list knows no more than the second -/
def wk : List Value → List Value → Prop
  | [], _ => True
  | .null :: a, _ :: b => wk a b
  | x :: a, y :: b => x = y ∧ wk a b
  | _ :: _, [] => False
theorem wk_at : ∀ {a b : List Value}, wk a b → a.length ≤ b.length ∧ ∀ (i : Nat) (v : Value), a[i]? = some v → v ≠ .null → b[i]? = some v
  | [], _, _ => ⟨Nat.zero_le _, fun i v h => by simp at h⟩
  | x :: a, [], h => by cases x <;> exact False.elim h
  | x :: a, y :: b, h => by
    have key : wk a b ∧ (x ≠ .null → x = y) := by
      cases x <;> first | exact ⟨h, fun z => absurd rfl z⟩ | exact ⟨h.2, fun _ => h.1⟩
    obtain ⟨h1, h2⟩ := wk_at key.1
    refine ⟨Nat.succ_le_succ h1, fun i v hi hv => ?_⟩
    match i, hi with
    | 0, hi =>
      simp at hi
      subst hi
      simp [key.2 hv]
    | i + 1, hi => exact h2 i v hi hv
theorem at_weak {l : Launch} {G : Geo} {d pc : Nat} {g : Sig} {a b st : List Value} {σ : St} {post : Option Value → St → Prop} (hw : wk a b) (h : AtA l G d g pc a st σ post) : AtA l G d g pc b st σ post := by
  obtain ⟨h1, h2⟩ := wk_at hw
  intro p e s m args below meth c H locs lsA F hP hS hL
  exact h p e s m args below meth c H locs lsA F hP hS ⟨hL.1, hL.2.1, Nat.le_trans h1 hL.2.2.1, fun i v hi hv => hL.2.2.2 i v (h2 i v hi hv) hv⟩
theorem at_weak2 {l : Launch} {G : Geo} {d pc : Nat} {g : Sig} {a b st : List Value} {σ : St} {post : Option Value → St → Prop} (h : AtA l G d g pc a st σ post) (hw : wk a b) : AtA l G d g pc b st σ post := at_weak hw h

theorem rk_X0_copyFrom : tX0_copyFrom.all (retok sX0_copyFrom .int) = true := by decide +kernel
theorem rk_X0_beginAnew : tX0_beginAnew.all (retok sX0_beginAnew .int) = true := by decide +kernel
theorem rk_X0_size : tX0_size.all (retok sX0_size .int) = true := by decide +kernel
theorem rk_X0_allVoices : tX0_allVoices.all (retok sX0_allVoices .int) = true := by decide +kernel
theorem rk_X0_has : tX0_has.all (retok sX0_has .boolean) = true := by decide +kernel
theorem rk_X0_isAway : tX0_isAway.all (retok sX0_isAway .boolean) = true := by decide +kernel
theorem rk_X0_isHoarse : tX0_isHoarse.all (retok sX0_isHoarse .boolean) = true := by decide +kernel
theorem rk_X0_lateOf : tX0_lateOf.all (retok sX0_lateOf .int) = true := by decide +kernel
theorem rk_X0_setAway : tX0_setAway.all (retok sX0_setAway .int) = true := by decide +kernel
theorem rk_X0_setHoarse : tX0_setHoarse.all (retok sX0_setHoarse .int) = true := by decide +kernel
theorem rk_X0_setLate : tX0_setLate.all (retok sX0_setLate .int) = true := by decide +kernel
theorem rk_X0_voiceOf : tX0_voiceOf.all (retok sX0_voiceOf .int) = true := by decide +kernel
theorem rk_X0_isSaid : tX0_isSaid.all (retok sX0_isSaid .boolean) = true := by decide +kernel
theorem rk_X1_prepare : tX1_prepare.all (retok sX1_prepare .int) = true := by decide +kernel
theorem rk_X1_findChoices : tX1_findChoices.all (retok sX1_findChoices .int) = true := by decide +kernel
theorem rk_X1_findReached : tX1_findReached.all (retok sX1_findReached .int) = true := by decide +kernel
theorem rk_X1_stepFrom : tX1_stepFrom.all (retok sX1_stepFrom .int) = true := by decide +kernel
theorem rk_X1_choicesAt : tX1_choicesAt.all (retok sX1_choicesAt .int) = true := by decide +kernel
theorem rk_X1_isReached : tX1_isReached.all (retok sX1_isReached .boolean) = true := by decide +kernel
theorem rk_X1_findWays : tX1_findWays.all (retok sX1_findWays .int) = true := by decide +kernel
theorem rk_X1_sumOfWays : tX1_sumOfWays.all (retok sX1_sumOfWays .int) = true := by decide +kernel
theorem rk_X1_waysBehind : tX1_waysBehind.all (retok sX1_waysBehind .int) = true := by decide +kernel
theorem rk_X1_total : tX1_total.all (retok sX1_total .int) = true := by decide +kernel
theorem rk_X1_wordsInAny : tX1_wordsInAny.all (retok sX1_wordsInAny .int) = true := by decide +kernel
theorem rk_X1_wordsThatEndWell : tX1_wordsThatEndWell.all (retok sX1_wordsThatEndWell .int) = true := by decide +kernel
theorem rk_X1_wordOfFirst : tX1_wordOfFirst.all (retok sX1_wordOfFirst .int) = true := by decide +kernel
theorem rk_X1_leastThatEndsWell : tX1_leastThatEndsWell.all (retok sX1_leastThatEndsWell .int) = true := by decide +kernel
theorem rk_X2_wordSaidBy : tX2_wordSaidBy.all (retok sX2_wordSaidBy .int) = true := by decide +kernel
theorem rk_X2_isSaidBy : tX2_isSaidBy.all (retok sX2_isSaidBy .boolean) = true := by decide +kernel
theorem rk_X2_countTwins : tX2_countTwins.all (retok sX2_countTwins .int) = true := by decide +kernel
theorem rk_X2_firstTwins : tX2_firstTwins.all (retok sX2_firstTwins .int) = true := by decide +kernel
theorem rk_X2_twinOf : tX2_twinOf.all (retok sX2_twinOf .int) = true := by decide +kernel
theorem rk_X2_sumOfClassSizes : tX2_sumOfClassSizes.all (retok sX2_sumOfClassSizes .int) = true := by decide +kernel
theorem rk_X2_countClasses : tX2_countClasses.all (retok sX2_countClasses .int) = true := by decide +kernel
theorem rk_X2_isOneClass : tX2_isOneClass.all (retok sX2_isOneClass .boolean) = true := by decide +kernel
theorem rk_X2_voicesThatDiffer : tX2_voicesThatDiffer.all (retok sX2_voicesThatDiffer .int) = true := by decide +kernel
theorem rk_X2_greatestBearing : tX2_greatestBearing.all (retok sX2_greatestBearing .int) = true := by decide +kernel
theorem rk_X2_isClash : tX2_isClash.all (retok sX2_isClash .boolean) = true := by decide +kernel
theorem rk_X2_greatestWithoutClash : tX2_greatestWithoutClash.all (retok sX2_greatestWithoutClash .int) = true := by decide +kernel
theorem rk_X3_linesRead : tX3_linesRead.all (retok sX3_linesRead .int) = true := by decide +kernel
theorem rk_X3_readToFault : tX3_readToFault.all (retok sX3_readToFault .int) = true := by decide +kernel
theorem rk_X3_advance : tX3_advance.all (retok sX3_advance .int) = true := by decide +kernel
theorem rk_X3_tokenIs : tX3_tokenIs.all (retok sX3_tokenIs .boolean) = true := by decide +kernel
theorem rk_X3_takeNumber : tX3_takeNumber.all (retok sX3_takeNumber .int) = true := by decide +kernel
theorem rk_X3_doLine : tX3_doLine.all (retok sX3_doLine .boolean) = true := by decide +kernel
theorem rk_X3_doOrder : tX3_doOrder.all (retok sX3_doOrder .boolean) = true := by decide +kernel
theorem rk_X3_doWord : tX3_doWord.all (retok sX3_doWord .boolean) = true := by decide +kernel
theorem rk_X3_doNot : tX3_doNot.all (retok sX3_doNot .boolean) = true := by decide +kernel
theorem rk_X3_doFree : tX3_doFree.all (retok sX3_doFree .boolean) = true := by decide +kernel
theorem rk_X3_doAway : tX3_doAway.all (retok sX3_doAway .boolean) = true := by decide +kernel
theorem rk_X3_doHoarse : tX3_doHoarse.all (retok sX3_doHoarse .boolean) = true := by decide +kernel
theorem rk_X3_doLate : tX3_doLate.all (retok sX3_doLate .boolean) = true := by decide +kernel
theorem rk_X4_length : tX4_length.all (retok sX4_length .int) = true := by decide +kernel
theorem rk_X4_hasRoom : tX4_hasRoom.all (retok sX4_hasRoom .boolean) = true := by decide +kernel
theorem rk_X4_append : tX4_append.all (retok sX4_append .int) = true := by decide +kernel
theorem rk_X4_makeEmpty : tX4_makeEmpty.all (retok sX4_makeEmpty .int) = true := by decide +kernel
theorem rk_X4_at : tX4_at.all (retok sX4_at .int) = true := by decide +kernel
theorem rk_X4_endOfRow : tX4_endOfRow.all (retok sX4_endOfRow .int) = true := by decide +kernel
theorem rk_X5_prepare : tX5_prepare.all (retok sX5_prepare .int) = true := by decide +kernel
theorem rk_X5_countLetters : tX5_countLetters.all (retok sX5_countLetters .int) = true := by decide +kernel
theorem rk_X5_countLetter : tX5_countLetter.all (retok sX5_countLetter .int) = true := by decide +kernel
theorem rk_X5_leastBest : tX5_leastBest.all (retok sX5_leastBest .int) = true := by decide +kernel
theorem rk_X5_fewestWith : tX5_fewestWith.all (retok sX5_fewestWith .int) = true := by decide +kernel
theorem rk_X5_spoiltBy : tX5_spoiltBy.all (retok sX5_spoiltBy .int) = true := by decide +kernel
theorem rk_X5_fewestSpoilt : tX5_fewestSpoilt.all (retok sX5_fewestSpoilt .int) = true := by decide +kernel
theorem rk_X5_voiceAt : tX5_voiceAt.all (retok sX5_voiceAt .int) = true := by decide +kernel
theorem rk_X6_copyFrom : tX6_copyFrom.all (retok sX6_copyFrom .int) = true := by decide +kernel
theorem rk_X6_makeEmpty : tX6_makeEmpty.all (retok sX6_makeEmpty .int) = true := by decide +kernel
theorem rk_X6_letterTotal : tX6_letterTotal.all (retok sX6_letterTotal .int) = true := by decide +kernel
theorem rk_X6_wordTotal : tX6_wordTotal.all (retok sX6_wordTotal .int) = true := by decide +kernel
theorem rk_X6_saidTotal : tX6_saidTotal.all (retok sX6_saidTotal .int) = true := by decide +kernel
theorem rk_X6_lastWord : tX6_lastWord.all (retok sX6_lastWord .int) = true := by decide +kernel
theorem rk_X6_hasRoom : tX6_hasRoom.all (retok sX6_hasRoom .boolean) = true := by decide +kernel
theorem rk_X6_append : tX6_append.all (retok sX6_append .int) = true := by decide +kernel
theorem rk_X6_sayMore : tX6_sayMore.all (retok sX6_sayMore .int) = true := by decide +kernel
theorem rk_X6_letterAt : tX6_letterAt.all (retok sX6_letterAt .int) = true := by decide +kernel
theorem rk_X6_heardAt : tX6_heardAt.all (retok sX6_heardAt .int) = true := by decide +kernel
theorem rk_X6_lettersHeard : tX6_lettersHeard.all (retok sX6_lettersHeard .int) = true := by decide +kernel
theorem rk_X6_lettersSaidBy : tX6_lettersSaidBy.all (retok sX6_lettersSaidBy .int) = true := by decide +kernel
theorem rk_X6_countLateRows : tX6_countLateRows.all (retok sX6_countLateRows .int) = true := by decide +kernel
theorem rk_X6_firstLateRow : tX6_firstLateRow.all (retok sX6_firstLateRow .int) = true := by decide +kernel
theorem rk_X6_leastLate : tX6_leastLate.all (retok sX6_leastLate .int) = true := by decide +kernel
theorem rk_X6_isHeardLate : tX6_isHeardLate.all (retok sX6_isHeardLate .boolean) = true := by decide +kernel
theorem rk_X7_length : tX7_length.all (retok sX7_length .int) = true := by decide +kernel
theorem rk_X7_isFull : tX7_isFull.all (retok sX7_isFull .boolean) = true := by decide +kernel
theorem rk_X7_makeEmpty : tX7_makeEmpty.all (retok sX7_makeEmpty .int) = true := by decide +kernel
theorem rk_X7_append : tX7_append.all (retok sX7_append .int) = true := by decide +kernel
theorem rk_X7_at : tX7_at.all (retok sX7_at .int) = true := by decide +kernel
theorem rk_X7_isFitting : tX7_isFitting.all (retok sX7_isFitting .boolean) = true := by decide +kernel
theorem rk_X8_copyFrom : tX8_copyFrom.all (retok sX8_copyFrom .int) = true := by decide +kernel
theorem rk_X9_copyFrom : tX9_copyFrom.all (retok sX9_copyFrom .int) = true := by decide +kernel
theorem rk_X9_size : tX9_size.all (retok sX9_size .int) = true := by decide +kernel
theorem rk_X9_isFull : tX9_isFull.all (retok sX9_isFull .boolean) = true := by decide +kernel
theorem rk_X9_has : tX9_has.all (retok sX9_has .boolean) = true := by decide +kernel
theorem rk_X9_lengthOf : tX9_lengthOf.all (retok sX9_lengthOf .int) = true := by decide +kernel
theorem rk_X9_sortOf : tX9_sortOf.all (retok sX9_sortOf .int) = true := by decide +kernel
theorem rk_X9_letterOf : tX9_letterOf.all (retok sX9_letterOf .int) = true := by decide +kernel
theorem rk_X9_followBits : tX9_followBits.all (retok sX9_followBits .int) = true := by decide +kernel
theorem rk_X9_mayFollow : tX9_mayFollow.all (retok sX9_mayFollow .boolean) = true := by decide +kernel
theorem rk_X9_forbid : tX9_forbid.all (retok sX9_forbid .int) = true := by decide +kernel
theorem rk_X9_makeFree : tX9_makeFree.all (retok sX9_makeFree .int) = true := by decide +kernel
theorem rk_X9_isTold : tX9_isTold.all (retok sX9_isTold .boolean) = true := by decide +kernel
theorem rk_X9_isSpelt : tX9_isSpelt.all (retok sX9_isSpelt .boolean) = true := by decide +kernel
theorem rk_X9_append : tX9_append.all (retok sX9_append .int) = true := by decide +kernel
theorem rk_X10_write : tX10_write.all (retok sX10_write .int) = true := by decide +kernel
theorem rk_X10_erase : tX10_erase.all (retok sX10_erase .int) = true := by decide +kernel
theorem rk_X10_fault : tX10_fault.all (retok sX10_fault .int) = true := by decide +kernel
theorem rk_X10_order : tX10_order.all (retok sX10_order .int) = true := by decide +kernel
theorem rk_X10_word : tX10_word.all (retok sX10_word .int) = true := by decide +kernel
theorem rk_X10_voice : tX10_voice.all (retok sX10_voice .int) = true := by decide +kernel
theorem rk_X10_preach : tX10_preach.all (retok sX10_preach .int) = true := by decide +kernel
theorem rk_X10_amen : tX10_amen.all (retok sX10_amen .int) = true := by decide +kernel
theorem rk_X10_say : tX10_say.all (retok sX10_say .int) = true := by decide +kernel
theorem rk_X10_heard : tX10_heard.all (retok sX10_heard .int) = true := by decide +kernel
theorem rk_X10_tally : tX10_tally.all (retok sX10_tally .int) = true := by decide +kernel
theorem rk_X10_sound : tX10_sound.all (retok sX10_sound .int) = true := by decide +kernel
theorem rk_X10_listen : tX10_listen.all (retok sX10_listen .int) = true := by decide +kernel
theorem rk_X10_hush : tX10_hush.all (retok sX10_hush .int) = true := by decide +kernel
theorem rk_X10_fits : tX10_fits.all (retok sX10_fits .int) = true := by decide +kernel
theorem rk_X10_readings : tX10_readings.all (retok sX10_readings .int) = true := by decide +kernel
theorem rk_X10_came : tX10_came.all (retok sX10_came .int) = true := by decide +kernel
theorem rk_X10_alone : tX10_alone.all (retok sX10_alone .int) = true := by decide +kernel
theorem rk_X10_twins : tX10_twins.all (retok sX10_twins .int) = true := by decide +kernel
theorem rk_X10_learnt : tX10_learnt.all (retok sX10_learnt .int) = true := by decide +kernel
theorem rk_X10_seats : tX10_seats.all (retok sX10_seats .int) = true := by decide +kernel
theorem rk_X10_bears : tX10_bears.all (retok sX10_bears .int) = true := by decide +kernel
theorem rk_X10_keep : tX10_keep.all (retok sX10_keep .int) = true := by decide +kernel
theorem rk_X10_back : tX10_back.all (retok sX10_back .int) = true := by decide +kernel
theorem rk_X10_count : tX10_count.all (retok sX10_count .int) = true := by decide +kernel
theorem rk_X10_shelf : tX10_shelf.all (retok sX10_shelf .int) = true := by decide +kernel
theorem rk_X10_lowestTerm : tX10_lowestTerm.all (retok sX10_lowestTerm .int) = true := by decide +kernel
theorem rk_X11_in : tX11_in.all (retok sX11_in .boolean) = true := by decide +kernel
theorem rk_X11_has : tX11_has.all (retok sX11_has .boolean) = true := by decide +kernel
theorem rk_X11_isWord : tX11_isWord.all (retok sX11_isWord .boolean) = true := by decide +kernel
theorem rk_X11_isVoice : tX11_isVoice.all (retok sX11_isVoice .boolean) = true := by decide +kernel
theorem rk_X11_write : tX11_write.all (retok sX11_write .int) = true := by decide +kernel
theorem rk_X11_erase : tX11_erase.all (retok sX11_erase .int) = true := by decide +kernel
theorem rk_X11_nextToken : tX11_nextToken.all (retok sX11_nextToken .int) = true := by decide +kernel
theorem rk_X11_fails : tX11_fails.all (retok sX11_fails .boolean) = true := by decide +kernel
theorem rk_X11_isNumber : tX11_isNumber.all (retok sX11_isNumber .boolean) = true := by decide +kernel
theorem rk_X11_isVoiceRead : tX11_isVoiceRead.all (retok sX11_isVoiceRead .boolean) = true := by decide +kernel
theorem rk_X11_isOrder : tX11_isOrder.all (retok sX11_isOrder .boolean) = true := by decide +kernel
theorem rk_X11_isTold : tX11_isTold.all (retok sX11_isTold .boolean) = true := by decide +kernel
theorem rk_X11_isWordLine : tX11_isWordLine.all (retok sX11_isWordLine .boolean) = true := by decide +kernel
theorem rk_X11_isLine : tX11_isLine.all (retok sX11_isLine .boolean) = true := by decide +kernel
theorem rk_X11_isRead : tX11_isRead.all (retok sX11_isRead .boolean) = true := by decide +kernel
theorem rk_X11_fault : tX11_fault.all (retok sX11_fault .int) = true := by decide +kernel
theorem rk_X11_addWord : tX11_addWord.all (retok sX11_addWord .int) = true := by decide +kernel
theorem rk_X11_doLine : tX11_doLine.all (retok sX11_doLine .int) = true := by decide +kernel
theorem rk_X11_order : tX11_order.all (retok sX11_order .int) = true := by decide +kernel
theorem rk_X11_word : tX11_word.all (retok sX11_word .int) = true := by decide +kernel
theorem rk_X11_lettersOf : tX11_lettersOf.all (retok sX11_lettersOf .int) = true := by decide +kernel
theorem rk_X11_letterAt : tX11_letterAt.all (retok sX11_letterAt .int) = true := by decide +kernel
theorem rk_X11_isSaid : tX11_isSaid.all (retok sX11_isSaid .boolean) = true := by decide +kernel
theorem rk_X11_voice : tX11_voice.all (retok sX11_voice .int) = true := by decide +kernel
theorem rk_X11_mayFollow : tX11_mayFollow.all (retok sX11_mayFollow .boolean) = true := by decide +kernel
theorem rk_X11_preach : tX11_preach.all (retok sX11_preach .int) = true := by decide +kernel
theorem rk_X11_amen : tX11_amen.all (retok sX11_amen .int) = true := by decide +kernel
theorem rk_X11_say : tX11_say.all (retok sX11_say .int) = true := by decide +kernel
theorem rk_X11_heardAt : tX11_heardAt.all (retok sX11_heardAt .int) = true := by decide +kernel
theorem rk_X11_heard : tX11_heard.all (retok sX11_heard .int) = true := by decide +kernel
theorem rk_X11_tally : tX11_tally.all (retok sX11_tally .int) = true := by decide +kernel
theorem rk_X11_sound : tX11_sound.all (retok sX11_sound .int) = true := by decide +kernel
theorem rk_X11_listen : tX11_listen.all (retok sX11_listen .int) = true := by decide +kernel
theorem rk_X11_hush : tX11_hush.all (retok sX11_hush .int) = true := by decide +kernel
theorem rk_X11_doesFit : tX11_doesFit.all (retok sX11_doesFit .boolean) = true := by decide +kernel
theorem rk_X11_fits : tX11_fits.all (retok sX11_fits .int) = true := by decide +kernel
theorem rk_X11_waysAt : tX11_waysAt.all (retok sX11_waysAt .int) = true := by decide +kernel
theorem rk_X11_layWays : tX11_layWays.all (retok sX11_layWays .int) = true := by decide +kernel
theorem rk_X11_readingMany : tX11_readingMany.all (retok sX11_readingMany .int) = true := by decide +kernel
theorem rk_X11_comeIn : tX11_comeIn.all (retok sX11_comeIn .int) = true := by decide +kernel
theorem rk_X11_firstReading : tX11_firstReading.all (retok sX11_firstReading .int) = true := by decide +kernel
theorem rk_X11_readings : tX11_readings.all (retok sX11_readings .int) = true := by decide +kernel
theorem rk_X11_came : tX11_came.all (retok sX11_came .int) = true := by decide +kernel
theorem rk_X11_wordBy : tX11_wordBy.all (retok sX11_wordBy .int) = true := by decide +kernel
theorem rk_X11_alone : tX11_alone.all (retok sX11_alone .int) = true := by decide +kernel
theorem rk_X11_twins : tX11_twins.all (retok sX11_twins .int) = true := by decide +kernel
theorem rk_X11_isClassed : tX11_isClassed.all (retok sX11_isClassed .boolean) = true := by decide +kernel
theorem rk_X11_divisor : tX11_divisor.all (retok sX11_divisor .int) = true := by decide +kernel
theorem rk_X11_learnt : tX11_learnt.all (retok sX11_learnt .int) = true := by decide +kernel
theorem rk_X11_laySeats : tX11_laySeats.all (retok sX11_laySeats .boolean) = true := by decide +kernel
theorem rk_X11_spoilt : tX11_spoilt.all (retok sX11_spoilt .int) = true := by decide +kernel
theorem rk_X11_seats : tX11_seats.all (retok sX11_seats .int) = true := by decide +kernel
theorem rk_X11_areApart : tX11_areApart.all (retok sX11_areApart .boolean) = true := by decide +kernel
theorem rk_X11_bits : tX11_bits.all (retok sX11_bits .int) = true := by decide +kernel
theorem rk_X11_bears : tX11_bears.all (retok sX11_bears .int) = true := by decide +kernel
theorem rk_X11_keep : tX11_keep.all (retok sX11_keep .int) = true := by decide +kernel
theorem rk_X11_back : tX11_back.all (retok sX11_back .int) = true := by decide +kernel
theorem rk_X11_count : tX11_count.all (retok sX11_count .int) = true := by decide +kernel
theorem rk_J6_bitCount_0f7a4 : tJ6_bitCount_0f7a4.all (retok sJ6_bitCount_0f7a4 .int) = true := by decide +kernel
theorem rk_J0_length_8abf5 : tJ0_length_8abf5.all (retok sJ0_length_8abf5 .int) = true := by decide +kernel
theorem rk_J0_charAt_5068e : tJ0_charAt_5068e.all (retok sJ0_charAt_5068e .char) = true := by decide +kernel
theorem rk_J0_coder_7d493 : tJ0_coder_7d493.all (retok sJ0_coder_7d493 .byte) = true := by decide +kernel
theorem rk_J0_isLatin1_aae02 : tJ0_isLatin1_aae02.all (retok sJ0_isLatin1_aae02 .boolean) = true := by decide +kernel
theorem rk_J0_checkIndex_df160 : tJ0_checkIndex_df160.all (retok sJ0_checkIndex_df160 .int) = true := by decide +kernel
theorem rk_J1_charAt_3b067 : tJ1_charAt_3b067.all (retok sJ1_charAt_3b067 .char) = true := by decide +kernel
theorem rk_J3_checkIndex_8e157 : tJ3_checkIndex_8e157.all (retok sJ3_checkIndex_8e157 .int) = true := by decide +kernel
