/-! ===== the class's holds, whole ===== -/
section HOLDC2
variable {ad : Nat → Nat} {D : va_G} {cA : Nat → ClassId} {μ : x_M}
theorem evalT_len {fa : Nat → Int} : ∀ (ts : List Tok) (st : List Bool), wfT ts st.length → (evalT fa ts st).length = 1
  | [], st, h => h
  | t :: r, st, h => by
    obtain ⟨-, h', hh, -, hw⟩ := h
    have hl := tokStep_len (fa := fa) hh
    show (evalT fa r (tokStep fa t st)).length = 1
    exact evalT_len r _ (by rw [hl]; exact hw)
/-- a clause's tests hold -/
def holdsB (fa : Nat → Int) (ts : List Tok) : Bool := (evalT fa ts []).headD false
theorem c_holds {l : Nat} {fa : Nat → Int} (hl : l ∈ lawIds) (hP : Pt μ) (hV : ValC μ l fa) {ts : List Tok} {o e : Nat} (hS : SegI (μ.1 (l + 4)) encC o ts) (hw : wfT ts 0) (he : e = o + ts.length) (h100 : e ≤ 100) : f_X4_holds (XC ad D cA) l (Int32.ofNat o) (Int32.ofNat e) μ = some (if holdsB fa ts then 1 else 0, μ) := by
  unfold f_X4_holds
  rw [lt_v]
  have e0 : (if Int32.ofNat o < (0 : Int32) then (0 : Int32) else Int32.ofNat o) = Int32.ofNat o := if_neg (iN_neg (by omega))
  rw [e0, show (0 : Int64) = iP [] from iP_nil.symm, c_holdsL hl hP hV ts [] o 4096 e _ (by omega) hS hw (Nat.zero_le _) he h100 rfl]
  have hlen := evalT_len (fa := fa) ts [] hw
  unfold holdsB
  match hq : evalT fa ts [], hlen with
  | [b], _ =>
    show (if (lg_cmp (iP [b] &&& (1 : Int64)) (1 : Int64)) = 0 then _ else _) = some (if ([b] : List Bool).headD false then 1 else 0, μ)
    cases b
    · rw [if_neg (fun z => by have := iP_top.mp z; cases this), ck_t (by decide)]; rfl
    · rw [if_pos (iP_top.mpr rfl), ck_t (by decide)]; rfl
end HOLDC2
