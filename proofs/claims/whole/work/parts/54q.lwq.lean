/-! the law's helpers of input, runs, lines, what is taken back or saved: what is left of each, behind the class's call -/
section LWQ
variable {adK : Nat → Nat} {A : Nat → Nat} {S : PS} {ow : Ow} {v v' : Vt} {hs hs' : List Vt} {sv sv' : Option Vt} {r r' : Nat → Int32} {tx tx' : List Nat} {fa fa' : Int32} {ln ln' : List Nat} {o : Nat × Int32}
theorem h_append {x : Int32} {post : Int32 → PS → Prop} (hL : LIv S ow A v hs sv r tx fa ln)
    (hC : ∀ post postX, (∀ S1 ow1, CI S1 ow1 A v' hs' sv' r' tx' fa' ln' → keeps CC S ow S1 ow1 → rs (eE "java/lang/IllegalArgumentException" "java/lang/IllegalStateException") o post postX S1) → f_X7_append S (A 12) x 70 2100 post postX) (hb : o.1 ≤ 2)
    (next : ∀ S1 ow1 f, CI S1 ow1 A v' hs' sv' r' tx' fa' ln' → MI S1 ow1 A v hs sv r tx fa ln → oL S1 ow1 A f → (o.1 = 0 → f 0 = o.2.toInt64) → (∃ f, oDb S1 ow1 A f) → post (nI o.1) S1) : f_L_append S (A 12) x (A 13) 70 2100 post := by
  unfold f_L_append
  exact hl_g (o := o) (E := eE "java/lang/IllegalArgumentException" "java/lang/IllegalStateException") (fC := fun bc bs p px => f_X7_append S (A 12) x bc bs p px) hL hC (fun S4 h0 hq => eE_2 (P := fun z => post z S4) hb h0 rfl hq) next
theorem h_run {post : Int32 → PS → Prop} (hL : LIv S ow A v hs sv r tx fa ln)
    (hC : ∀ post postX, (∀ S1 ow1, CI S1 ow1 A v' hs' sv' r' tx' fa' ln' → keeps CC S ow S1 ow1 → rs (eE "java/lang/IllegalArgumentException" "java/lang/UnsupportedOperationException") o post postX S1) → f_X7_run adK S (A 12) 70 2100 post postX) (hb : o.1 ≤ 2)
    (next : ∀ S1 ow1 f, CI S1 ow1 A v' hs' sv' r' tx' fa' ln' → MI S1 ow1 A v hs sv r tx fa ln → oL S1 ow1 A f → (o.1 = 0 → f 0 = o.2.toInt64) → (∃ f, oDb S1 ow1 A f) → post (nI o.1) S1) : f_L_run adK S (A 12) (A 13) 70 2100 post := by
  unfold f_L_run
  exact hl_g (o := o) (E := eE "java/lang/IllegalArgumentException" "java/lang/UnsupportedOperationException") (fC := fun bc bs p px => f_X7_run adK S (A 12) bc bs p px) hL hC (fun S4 h0 hq => eE_2 (P := fun z => post z S4) hb h0 rfl hq) next
theorem h_reason {x y : Int32} {post : Int32 → PS → Prop} (hL : LIv S ow A v hs sv r tx fa ln)
    (hC : ∀ post postX, (∀ S1 ow1, CI S1 ow1 A v' hs' sv' r' tx' fa' ln' → keeps CC S ow S1 ow1 → rs (eE "java/lang/IllegalArgumentException" "java/util/NoSuchElementException") o post postX S1) → f_X7_reason S (A 12) x y 70 2100 post postX) (hb : o.1 ≤ 2)
    (next : ∀ S1 ow1 f, CI S1 ow1 A v' hs' sv' r' tx' fa' ln' → MI S1 ow1 A v hs sv r tx fa ln → oL S1 ow1 A f → (o.1 = 0 → f 0 = o.2.toInt64) → (∃ f, oDb S1 ow1 A f) → post (nI o.1) S1) : f_L_reason S (A 12) x y (A 13) 70 2100 post := by
  unfold f_L_reason
  exact hl_g (o := o) (E := eE "java/lang/IllegalArgumentException" "java/util/NoSuchElementException") (fC := fun bc bs p px => f_X7_reason S (A 12) x y bc bs p px) hL hC (fun S4 h0 hq => eE_2 (P := fun z => post z S4) hb h0 rfl hq) next
theorem h_tellPhase {x : Int32} {post : Int32 → PS → Prop} (hL : LIv S ow A v hs sv r tx fa ln)
    (hC : ∀ post postX, (∀ S1 ow1, CI S1 ow1 A v' hs' sv' r' tx' fa' ln' → keeps CC S ow S1 ow1 → rs (eE "java/lang/IndexOutOfBoundsException" "") o post postX S1) → f_X7_tellPhase S (A 12) x 70 2100 post postX) (hb : o.1 ≤ 1)
    (next : ∀ S1 ow1 f, CI S1 ow1 A v' hs' sv' r' tx' fa' ln' → MI S1 ow1 A v hs sv r tx fa ln → oL S1 ow1 A f → (o.1 = 0 → f 0 = o.2.toInt64) → (∃ f, oDb S1 ow1 A f) → post (nI o.1) S1) : f_L_tellPhase S (A 12) x (A 13) 70 2100 post := by
  unfold f_L_tellPhase
  exact hl_g (o := o) (E := eE "java/lang/IndexOutOfBoundsException" "") (fC := fun bc bs p px => f_X7_tellPhase S (A 12) x bc bs p px) hL hC (fun S4 h0 hq => eE_1 (P := fun z => post z S4) hb h0 rfl hq) next
theorem h_character {x : Int32} {post : Int32 → PS → Prop} (hL : LIv S ow A v hs sv r tx fa ln)
    (hC : ∀ post postX, (∀ S1 ow1, CI S1 ow1 A v' hs' sv' r' tx' fa' ln' → keeps CC S ow S1 ow1 → rs (eE "java/lang/IndexOutOfBoundsException" "") o post postX S1) → f_X7_character S (A 12) x 70 2100 post postX) (hb : o.1 ≤ 1)
    (next : ∀ S1 ow1 f, CI S1 ow1 A v' hs' sv' r' tx' fa' ln' → MI S1 ow1 A v hs sv r tx fa ln → oL S1 ow1 A f → (o.1 = 0 → f 0 = o.2.toInt64) → (∃ f, oDb S1 ow1 A f) → post (nI o.1) S1) : f_L_character S (A 12) x (A 13) 70 2100 post := by
  unfold f_L_character
  exact hl_g (o := o) (E := eE "java/lang/IndexOutOfBoundsException" "") (fC := fun bc bs p px => f_X7_character S (A 12) x bc bs p px) hL hC (fun S4 h0 hq => eE_1 (P := fun z => post z S4) hb h0 rfl hq) next
theorem h_undo {post : Int32 → PS → Prop} (hL : LIv S ow A v hs sv r tx fa ln)
    (hC : ∀ post postX, (∀ S1 ow1, CI S1 ow1 A v' hs' sv' r' tx' fa' ln' → keeps CC S ow S1 ow1 → rs (eE "java/lang/IllegalStateException" "") o post postX S1) → f_X7_undo S (A 12) 70 2100 post postX) (hb : o.1 ≤ 1)
    (next : ∀ S1 ow1 f, CI S1 ow1 A v' hs' sv' r' tx' fa' ln' → MI S1 ow1 A v hs sv r tx fa ln → oL S1 ow1 A f → (o.1 = 0 → f 0 = o.2.toInt64) → (∃ f, oDb S1 ow1 A f) → post (nI o.1) S1) : f_L_undo S (A 12) (A 13) 70 2100 post := by
  unfold f_L_undo
  exact hl_g (o := o) (E := eE "java/lang/IllegalStateException" "") (fC := fun bc bs p px => f_X7_undo S (A 12) bc bs p px) hL hC (fun S4 h0 hq => eE_1 (P := fun z => post z S4) hb h0 rfl hq) next
theorem h_restore {post : Int32 → PS → Prop} (hL : LIv S ow A v hs sv r tx fa ln)
    (hC : ∀ post postX, (∀ S1 ow1, CI S1 ow1 A v' hs' sv' r' tx' fa' ln' → keeps CC S ow S1 ow1 → rs (eE "java/lang/IllegalStateException" "") o post postX S1) → f_X7_restore S (A 12) 70 2100 post postX) (hb : o.1 ≤ 1)
    (next : ∀ S1 ow1 f, CI S1 ow1 A v' hs' sv' r' tx' fa' ln' → MI S1 ow1 A v hs sv r tx fa ln → oL S1 ow1 A f → (o.1 = 0 → f 0 = o.2.toInt64) → (∃ f, oDb S1 ow1 A f) → post (nI o.1) S1) : f_L_restore S (A 12) (A 13) 70 2100 post := by
  unfold f_L_restore
  exact hl_g (o := o) (E := eE "java/lang/IllegalStateException" "") (fC := fun bc bs p px => f_X7_restore S (A 12) bc bs p px) hL hC (fun S4 h0 hq => eE_1 (P := fun z => post z S4) hb h0 rfl hq) next
end LWQ
