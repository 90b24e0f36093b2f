/-! ===== what is fair hangs on links and flows alone ===== -/
section
variable {G G' : GR} {v : LV}
/-- the same links, and flows but for HELD -/
def SQ (G G' : GR) : Prop := (∀ l, l < 10 → G' (3 + l) = G (3 + l)) ∧ ∀ f j, f < 20 → j ≤ 5 → G' (23 + 11 * f + j) = G (23 + 11 * f + j)
theorem SP.sq (S : SP G G') : SQ G G' := ⟨S.1, fun f j hf hj => S.2 f j hf (by omega)⟩
theorem SQ.th (S : SQ G G') {f : Nat} (hf : f < 20) : gTh G' f = gTh G f := by
  unfold gTh
  rw [show G' (23 + 11 * f) = G (23 + 11 * f) from S.2 f 0 hf (by omega)]
theorem SQ.path (S : SQ G G') {f : Nat} (hf : f < 20) : gPath G' f = gPath G f := S.2 f 2 hf (by omega)
theorem SQ.wt (S : SQ G G') {f : Nat} (hf : f < 20) : gWt G' f = gWt G f := S.2 f 3 hf (by omega)
theorem SQ.least (S : SQ G G') {f : Nat} (hf : f < 20) : gLeast G' f = gLeast G f := S.2 f 4 hf (by omega)
theorem SQ.want (S : SQ G G') {f : Nat} (hf : f < 20) : gWant G' f = gWant G f := S.2 f 5 hf (by omega)
theorem SQ.name (S : SQ G G') {f : Nat} (hf : f < 20) : gName G' f = gName G f := S.2 f 1 hf (by omega)
theorem SQ.cap (S : SQ G G') {l : Nat} (hl : l < 10) : gCap G' l = gCap G l := S.1 l hl
theorem SQ.ov (S : SQ G G') {f l : Nat} (hf : f < 20) : gOv G' f l = gOv G f l := by unfold gOv; rw [S.th hf, S.path hf]
theorem SQ.rate (S : SQ G G') {f t : Nat} (hf : f < 20) : gRate G' f t = gRate G f t := by unfold gRate; rw [S.wt hf, S.least hf]
theorem SQ.own (S : SQ G G') {f : Nat} (hf : f < 20) : gOwn G' f = gOwn G f := by unfold gOwn; rw [S.wt hf, S.want hf]
theorem SQ.bnd (S : SQ G G') {l : Nat} : gBnd G' l = gBnd G l := fb_sm_cong (fun f hf => by rw [S.ov hf, S.least hf])
theorem SQ.sOp (S : SQ G G') {f : Nat} (hf : f < 20) : fOp G' v f = fOp G v f := by unfold fOp; rw [S.th hf]
theorem SQ.sW (S : SQ G G') {l t : Nat} : fW G' v l t = fW G v l t := fb_sm_cong (fun f hf => by rw [S.ov hf, S.rate hf])
theorem SQ.sOpL (S : SQ G G') {l : Nat} : fOpL G' v l = fOpL G v l := an_cong (fun f hf => by rw [S.ov hf])
theorem SQ.sT (S : SQ G G') {l : Nat} (hl : l < 10) : fT G' v l = fT G v l := gl_cong (fun t _ => by rw [S.sW, S.cap hl])
theorem SQ.sML (S : SQ G G') : ∀ n, n ≤ 10 → fML G' v n = fML G v n := by
  intro n
  induction n with
  | zero => intro _; rfl
  | succ n ih =>
    intro hn
    show (if fOpL G' v n = true then min (fML G' v n) (fT G' v n) else fML G' v n) = (if fOpL G v n = true then min (fML G v n) (fT G v n) else fML G v n)
    rw [S.sOpL, S.sT (by omega), ih (by omega)]
theorem SQ.sMF (S : SQ G G') : ∀ n, n ≤ 20 → fMF G' v n = fMF G v n := by
  intro n
  induction n with
  | zero => intro _; exact S.sML 10 (by omega)
  | succ n ih =>
    intro hn
    show (if fOp G' v n = true then min (fMF G' v n) (gOwn G' n) else fMF G' v n) = (if fOp G v n = true then min (fMF G v n) (gOwn G n) else fMF G v n)
    rw [S.sOp (by omega), S.own (by omega), ih (by omega)]
theorem SQ.sS (S : SQ G G') : fS G' v = fS G v := S.sMF 20 (by omega)
theorem SQ.sK (S : SQ G G') {l : Nat} (hl : l < 10) : fK G' v l = fK G v l := by unfold fK; rw [S.sOpL, S.sT hl, S.sS]
theorem SQ.sX (S : SQ G G') {f : Nat} (hf : f < 20) : fX G' v f = fX G v f := by
  unfold fX
  rw [S.sOp hf, S.own hf, S.sS, S.path hf, an_cong (fun l hl => by rw [S.sK hl])]
theorem SQ.sN (S : SQ G G') : fN G' v = fN G v := by
  funext f
  unfold fN
  by_cases hf : f < 20
  · rw [S.sX hf, S.sS]
  · rw [if_neg (fun x => hf x.1), if_neg (fun x => hf x.1)]
theorem SQ.sV (S : SQ G G') : ∀ k, fV G' k = fV G k := by
  intro k
  induction k with
  | zero => rfl
  | succ k ih =>
    show fN G' (fV G' k) = fN G (fV G k)
    rw [ih, S.sN]
theorem SQ.sAny (S : SQ G G') : fAny G' v = fAny G v := an_cong (fun f hf => S.sOp hf)
theorem fa_first_cong {p q : Nat → Bool} : ∀ n, (∀ k, k < n → p k = q k) → fa_first p n = fa_first q n := by
  intro n h
  have : ∀ (p q : Nat → Bool), (∀ k, k < n → p k = q k) → fa_first p n ≤ fa_first q n := by
    intro p q h
    by_cases c : fa_first q n < n
    · have h1 := fa_first_yes q n c
      rw [← h _ c] at h1
      by_cases d : fa_first q n < fa_first p n
      · have := fa_first_no p n _ d
        rw [h1] at this
        cases this
      · omega
    · have := fa_first_le p n
      have := fa_first_le q n
      omega
  have a := this p q h
  have b := this q p (fun k hk => (h k hk).symm)
  omega
theorem SQ.sSteps (S : SQ G G') : fSteps G' = fSteps G := fa_first_cong 20 (fun k _ => by rw [S.sV, S.sAny])
theorem SQ.sWit (S : SQ G G') {f : Nat} (hf : f < 20) : fWit G' v f = fWit G v f := fa_first_cong 10 (fun l hl => by rw [S.path hf, S.sK hl])
theorem SQ.fwt (S : SQ G G') {w : Nat} {h : th_H} (F : FWt w G h) : FWt w G' h := by
  obtain ⟨a, b, c, d⟩ := F
  unfold FWt
  rw [S.sSteps]
  refine ⟨a, fun f hf => by rw [S.sV]; exact b f hf, fun j hj => ?_, fun j f hj hf hx => ?_⟩
  · obtain ⟨x, y, z⟩ := c j hj
    rw [S.sV, S.sS]
    exact ⟨x, by rw [y, mk_cong (fun f hf => (S.sX hf).symm)], by rw [z, mk_cong (fun l hl => (S.sK hl).symm)]⟩
  · rw [S.sV, S.sX hf] at hx
    rw [S.sV, S.sWit hf]
    exact d j f hj hf hx
end
section
variable {n : Nat} {h m h2 m2 : th_H} {G G' : GR} {s : List Nat}
/-- a call that changes what letters tell -/
theorem RelG.pz0 (R : RelG n G h m) (hn : n < 512) (Z : PZ 1 h h2) (rq : RQ 1 h2 G') (oc : OC 1 h2 G') (ii : II G') (S : SQ G G') (M : MX s m m2 G') (h1 : 1 ∉ s) (h3 : 3 ∉ s) (h4 : 4 ∉ s) : RelG n G' h2 m2 := by
  obtain ⟨-, -, -, -, e, ⟨a, b, f1, f2, f3, f4, -, f6, f7, f8⟩, -, -, -⟩ := id R
  refine R.next (fun c hc => Z.1 c (by omega)) rq M.1 ii oc (fun z => ?_) ⟨a, b, ?_⟩ (M.2.1 1 h1 (by omega)) (M.2.1 3 h3 (by omega)) (M.2.1 4 h4 (by omega))
  · rw [Z.1 19 (by omega), Z.1 2 (by omega)] at z
    exact S.fwt (FW.cells (e z) (fun c p q => Z.1 c (by omega)))
  · obtain ⟨b', hb, x, y⟩ := oc.2
    rw [Z.1 (1 + 1) (by omega), f1, e_eq (by omega) hb] at x
    rw [← x] at y
    rw [Z.1 2 (by omega), Z.1 28 (by omega), Z.1 19 (by omega), Z.1 27 (by omega), Z.1 45 (by omega)]
    refine ⟨f1, f2, by omega, by omega, y, f6, f7, f8⟩
theorem RelG.th0 (R : RelG n G h m) : RelG n G h (th_up m 0 0 0) := by
  obtain ⟨a, b, c, d, e, f, -, -, -⟩ := id R
  exact R.next (fun _ _ => rfl) a (b.off (up_cell (by omega))) c d e f (up_cell (by omega)) (up_cell (by omega)) (up_cell (by omega))
theorem RelG.inc (R : RelG n G h m) : RelG (n + 1) G h m := by
  obtain ⟨a, b, c, d, e, f, -, -, -⟩ := id R
  exact R.next (fun _ _ => rfl) a b c d e (f.up (by omega)) rfl rfl rfl
theorem RelG.pz (R : RelG n G h m) (hn : n < 512) (Z : PZ 1 h h2) (rq : RQ 1 h2 G') (oc : OC 1 h2 G') (ii : II G') (S : SP G G') (M : MX s m m2 G') (h1 : 1 ∉ s) (h3 : 3 ∉ s) (h4 : 4 ∉ s) : RelG (n + 1) G' h2 m2 := (R.pz0 hn Z rq oc ii S.sq M h1 h3 h4).inc
end
