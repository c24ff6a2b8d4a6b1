/-! ===== retype speaks of the reference's rows alone ===== -/
theorem isS_mp (w : VV) (q : Int) : isS (mp w) q = isS w q := rfl
theorem Rt_mp (G : GT) (w : VV) (τ : Int → Int) (q k : Int) : Rt G (mp w) τ q k = Rt G w τ q k := rfl
theorem TyC_mp (G : GT) (w : VV) (τ : Int → Int) (q f : Int) : TyC G (mp w) τ q f = TyC G w τ q f := rfl
theorem ErC_mp (G : GT) (w : VV) (τ : Int → Int) (q f : Int) : ErC G (mp w) τ q f = ErC G w τ q f := rfl
theorem badW_mp (G : GT) (w : VV) (τ : Int → Int) (q : Int) : badW G (mp w) τ q = badW G w τ q := rfl
theorem tau_mp (G : GT) (w : VV) (τ : Int → Int) : ∀ (q : Nat) (j : Int), tau G (mp w) τ q j = tau G w τ q j
  | 0, _ => rfl
  | q + 1, j => by
    have e : tau G (mp w) τ q = tau G w τ q := funext (tau_mp G w τ q)
    show @ite Int _ (Classical.propDecidable _) _ _ = @ite Int _ (Classical.propDecidable _) _ _
    rw [e]
    rfl
theorem tauF_mp (G : GT) (w : VV) (τ : Int → Int) (j : Int) : tauF G (mp w) τ j = tauF G w τ j := tau_mp G w τ _ j
theorem trb_mp (G : GT) (w : VV) (τ : Int → Int) (j : Int) : trb G (mp w) τ j = trb G w τ j := by
  have e : tauF G (mp w) τ = tauF G w τ := funext (tauF_mp G w τ)
  unfold trb
  rw [e]
  rfl
theorem oth_mp (G : GT) (w : VV) (τ : Int → Int) (j : Int) : oth G (mp w) τ j = oth G w τ j := by
  unfold oth
  rw [tauF_mp]
  rfl
