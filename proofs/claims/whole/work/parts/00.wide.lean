theorem zw_wide : True := have _h := @Jvm.Stand.thenCaughtThrough; trivial
